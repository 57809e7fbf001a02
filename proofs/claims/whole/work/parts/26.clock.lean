/-! THE OTHER VICTIMS: the hand of the clock and the draw -/
theorem jushr16 (x : Int32) : ∃ y, y < 65536 ∧ jushr x 16 = nI y := by
  refine ⟨x.toBitVec.toNat / 2 ^ 16, ?_, ?_⟩
  · have := x.toBitVec.isLt
    omega
  · apply Int32.toBitVec_inj.mp
    apply BitVec.eq_of_toNat_eq
    have h := pk_ushr x 16 16 (by decide)
    have hl := x.toBitVec.isLt
    rw [pk_tn (by omega)]
    exact h
theorem jrem_N {a d : Nat} (ha : a < 2147483648) (h0 : 0 < d) (hd : d < 2147483648) : jrem (nI a) (nI d) = nI (a % d) := pk_rem ha h0 hd
theorem draw_e {o s : Nat} (ho : OB o) (hs : 1 ≤ s ∧ s ≤ 64) (I : jI) : ∃ k, k < s ∧ X0_drawBelow (o + 3) (nI s) I = some (nI k, jup I (o + 3) 0 (I (o + 3) 0 * 1103515245 + 12345)) ∧ ∀ J : jI, J 165 699 = I (o + 3) 0 → X7_draw 164 (nI s) J = some (nI k, jrow J 165 (ju1 (J 165) 699 (I (o + 3) 0 * 1103515245 + 12345))) := by
  obtain ⟨y, hy, ey⟩ := jushr16 (I (o + 3) 0 * 1103515245 + 12345)
  have n0 : ¬ nI s = 0 := nI_ne0 (by omega) (by omega)
  have n1 : ¬ nI s ≤ 0 := by rw [le0_N (by omega)]; omega
  refine ⟨y % s, Nat.mod_lt _ (by omega), ?_, fun J hJ => ?_⟩
  · unfold X0_drawBelow
    simp only [jlet_d, jup_q, ju1_eq]
    rw [if_neg n1, if_neg n0, ey, jrem_N (by omega) (by omega) (by omega)]
  · unfold X7_draw
    simp only [jlet_d, rM0, show ((699 : Int32)).toNatClampNeg = 699 from rfl, jup_q, ju1_eq, hJ]
    rw [if_pos (by decide), if_pos (by decide), if_pos (by decide), if_neg n0, ey, jrem_N (by omega) (by omega) (by omega)]
    rfl
theorem clock_key {B b l s g : Nat} (hb : LB b) (hl : l < 4) : ∀ r n d (I : jI) (m : Mn), LR B b I m l s → (∀ k, k < s → ¬ m (140 + 140 * l + 7 * k) = -1) → d + r = s → r < n → (∀ j, j < d → m (140 + 140 * l + 7 * ((g + j) % s) + 6) = 0) →
    ∃ k I' m', (∀ kC, jfx (X2_clockVictim_F1 b kC) (fun _ _ _ => none) n (nI ((g + d) % s)) (nI d) I = kC (nI k) I') ∧ (∀ J : jI, J 165 = m → ∀ kM, jfx (X7_victim_F1 164 (nI l) kM) (fun _ _ => none) n (nI ((g + d) % s)) J = kM (nI k) (jrow J 165 m')) ∧ k < s ∧ LR B b I' m' l s ∧ (∀ r, r ≠ b + 7 → I' r = I r) ∧ (∀ i, (∀ k, k < 16 → i ≠ 140 + 140 * l + 7 * k + 6) → m' i = m i) := by
  intro r
  induction r with
  | zero =>
    intro n d I m h hf hd hn hz
    obtain ⟨n, rfl⟩ : ∃ q, n = q + 1 := ⟨n - 1, by omega⟩
    have hs := h.1.1
    have hI0 := h.1.2.1.1
    have hc : (g + d) % s < s := Nat.mod_lt _ (by omega)
    have hu := hz 0 (by omega)
    rw [show (g + 0) % s = (g + d) % s by rw [show d = s by omega, Nat.add_mod_right, Nat.add_zero]] at hu
    refine ⟨(g + d) % s, I, m, fun kC => ?_, fun J hJ kM => ?_, hc, h, fun _ _ => rfl, fun _ _ => rfl⟩
    · rw [jfx_s, X2_clockVictim_F1, hI0, if_pos (nI_le (by omega) (by omega))]
    · rw [jfx_s, X7_victim_F1, note_e 6 l _ 6 rfl (by omega), ob_some, hJ, hu, if_neg (by decide), ← hJ, jrow_id]
  | succ r ih =>
    intro n d I m h hf hd hn hz
    obtain ⟨n, rfl⟩ : ∃ q, n = q + 1 := ⟨n - 1, by omega⟩
    have hs := h.1.1
    have hI0 := h.1.2.1.1
    have hm0 := h.1.2.1.2
    have hc : (g + d) % s < s := Nat.mod_lt _ (by omega)
    have hnx : ((g + d) % s + 1) % s = (g + (d + 1)) % s := by rw [Nat.mod_add_mod, Nat.add_assoc]
    generalize hcc : (g + d) % s = c at hc hnx
    obtain ⟨-, -, -, hu1, hu2⟩ := h.notes (show c < 16 by omega) (hf c hc)
    have h7 : rfC b 17 = b + 7 := hb.2.2.2.2.2.2.2.1
    by_cases hu : m (140 + 140 * l + 7 * c + 6) = 0
    · refine ⟨c, I, m, fun kC => ?_, fun J hJ kM => ?_, hc, h, fun _ _ => rfl, fun _ _ => rfl⟩
      · rw [jfx_s, X2_clockVictim_F1, hI0, if_neg (nI_ge (by omega) (by omega)), isSlot_e (by omega), ob_some, if_neg (by decide), if_pos (jin_N (by omega) (by omega)), h7, cl_N (by omega), if_pos (hu1.trans hu)]
      · rw [jfx_s, X7_victim_F1, note_e 6 l _ 6 rfl (by omega), ob_some, hJ, hu, if_neg (by decide), ← hJ, jrow_id]
    · have hu3 : m (140 + 140 * l + 7 * c + 6) = 1 := hu2.resolve_left hu
      have h' := h.unuse (k := c) (by omega)
      obtain ⟨k, I', m', e1, e2, e3, e4, e5, e6⟩ := ih n (d + 1) (jup I (b + 7) c 0) (ju1 m (140 + 140 * l + 7 * c + 6) 0) h' (fun k hk => by rw [ju1_ne _ _ (by omega)]; exact hf k hk) (by omega) (by omega) (fun j hj => by
        by_cases e : (g + j) % s = c
        · rw [e, ju1_eq]
        · rw [ju1_ne _ _ (by omega)]
          have : j ≠ d := fun e2 => e (by rw [e2]; exact hcc)
          exact hz j (by omega))
      refine ⟨k, I', m', fun kC => ?_, fun J hJ kM => ?_, e3, e4, fun r hr => ?_, fun i hi => ?_⟩
      · rw [jfx_s, X2_clockVictim_F1, hI0, if_neg (nI_ge (by omega) (by omega)), isSlot_e (by omega), ob_some, if_neg (by decide), if_pos (jin_N (by omega) (by omega)), h7, cl_N (by omega), if_neg (by rw [hu1, hu3]; decide), if_pos (jin_N (by omega) (by omega)), jlet_d, show jnz 0 = 0 from rfl, slotBehind_e (s := s) _ (by rw [jup_ne _ _ (by omega)]; exact hI0) hs.2 hc, ob_some, hnx, show nI d + (1 : Int32) = nI (d + 1) from nI_1 _]
        exact e1 kC
      · rw [jfx_s, X7_victim_F1, note_e 6 l _ 6 rfl (by omega), ob_some, hJ, hu3, if_pos rfl, slotAt_e 6 l _ 6 rfl, ob_some, if_pos (jin_N (by omega) (by omega)), jlet_d, rM0, cl_N (by omega), of_e 0 l 0 rfl (by omega), ob_some, jup_q, hJ, ju1_ne _ _ (by omega), Nat.add_zero, hm0, if_neg (nI_ne0 (by omega) (by omega)), jlet_d, show nI c + (1 : Int32) = nI (c + 1) from nI_1 _, jrem_N (by omega) (by omega) (by omega), hnx, e2 _ (by rw [jup_q, hJ]) kM]
        rw [jup_def, jrow_jrow]
      · rw [e5 r hr, jup_ne _ _ hr]
      · rw [e6 i hi, ju1_ne _ _ (hi c (by omega))]
/-- WHICH SLOT goes out of a full level, on both sides -/
theorem victim_sim {B o l s : Nat} (ho : OB o) (hl : l < 4) (hB : B < 1073741824) {I : jI} {m : Mn} (h : LR B (o + 10 + 9 * l) I m l s) (hf : ∀ k, k < s → ¬ m (140 + 140 * l + 7 * k) = -1) (hg : I (o + 3) 0 = m 699) :
    ∃ k I' m', X4_victimOf o (o + 10 + 9 * l) I = some (nI k, I') ∧ (∀ J : jI, J 165 = m → X7_victim 164 (nI l) J = some (nI k, jrow J 165 m')) ∧ k < s ∧ LR B (o + 10 + 9 * l) I' m' l s ∧ I' (o + 3) 0 = m' 699 ∧
      (∀ r j, (r < o + 10 + 9 * l ∨ o + 10 + 9 * l + 9 ≤ r) → (r ≠ o + 3 ∨ j ≠ 0) → I' r j = I r j) ∧ (∀ i, i ≠ 699 → (i < 128 + 140 * l ∨ 268 + 140 * l ≤ i) → m' i = m i) ∧ (∀ j, m' (140 + 140 * l + 7 * j) = m (140 + 140 * l + 7 * j)) := by
  have hb : LB (o + 10 + 9 * l) := LB_o ho hl
  obtain ⟨hs, ⟨hI0, hm0⟩, -, ⟨c, hc, hc1, hc2⟩, ⟨g, hg0, hg1, hg2⟩, hdr, -⟩ := id h.1
  by_cases h7 : c = 7
  · subst h7
    obtain ⟨k, I', m', e1, e2, e3, e4, e5, e6⟩ := clock_key (g := g) hb hl s 1000 0 I m h hf (by omega) (by omega) (fun j hj => by omega)
    simp only [show (g + 0) % s = g from Nat.mod_eq_of_lt hg0, show nI 0 = (0 : Int32) from rfl] at e1 e2
    have hI0' := e4.1.2.1.1
    have hm0' := e4.1.2.1.2
    have hk2 : (k + 1) % s < s := Nat.mod_lt _ (by omega)
    refine ⟨k, jup I' (o + 10 + 9 * l) 3 (nI ((k + 1) % s)), ju1 m' (131 + 140 * l) (nI ((k + 1) % s)), ?_, fun J hJ => ?_, e3, e4.hand hk2, ?_, fun r j hr hj => ?_, fun i hi hi2 => ?_, fun j => ?_⟩
    · unfold X4_victimOf X2_clockVictim
      rw [hc1, if_pos (show nI 7 = (7 : Int32) from rfl)]
      simp only [jlet_d]
      rw [hg1, e1, slotBehind_e I' hI0' hs.2 e3, ob_some, jb2_some]
    · unfold X7_victim
      rw [of_e 2 l 2 rfl (by omega), ob_some, hJ, show 128 + 140 * l + 2 = 130 + 140 * l by omega, hc2, if_pos (by decide), if_neg (by decide), of_e 3 l 3 rfl (by omega), ob_some, hJ, show 128 + 140 * l + 3 = 131 + 140 * l by omega, hg2, jlet_d, e2 J hJ, at_e 3 l 3 rfl, ob_some, of_e 0 l 0 rfl (by omega), ob_some, jrow_self, Nat.add_zero, hm0', if_neg (nI_ne0 (by omega) (by omega)), if_pos (jin_N (by omega) (by omega)), jlet_d, show nI k + (1 : Int32) = nI (k + 1) from nI_1 _, jrem_N (by omega) (by omega) (by omega), rM0, cl_N (by omega), jrow_jup, show 128 + 140 * l + 3 = 131 + 140 * l by omega]
    · rw [jup_ne _ _ (by omega), e5 _ (by omega), ju1_ne _ _ (by omega), e6 _ (by omega)]; exact hg
    · rw [jup_ne _ _ (by omega), e5 _ (by omega)]
    · rw [ju1_ne _ _ (by omega), e6 _ (by omega)]
    · rw [ju1_ne _ _ (by omega), e6 _ (by omega)]
  · by_cases h8 : c = 8
    · subst h8
      have hn := h.num (f := 4) (w := 9) (x := I (o + 10 + 9 * l) 4 + 1) (y := m (137 + 140 * l) + 1) (by omega) (by rw [hdr])
      rw [show 128 + 140 * l + 9 = 137 + 140 * l by omega] at hn
      obtain ⟨k, hk, k1, k2⟩ := draw_e (s := s) ho (by omega) (jup I (o + 10 + 9 * l) 4 (I (o + 10 + 9 * l) 4 + 1))
      have hx : jup I (o + 10 + 9 * l) 4 (I (o + 10 + 9 * l) 4 + 1) (o + 3) 0 = m 699 := by rw [jup_ne _ _ (by omega)]; exact hg
      rw [hx] at k1 k2
      have hd3 : rfC o 14 = o + 3 := (SB_o ho).2.2.1
      refine ⟨k, jup (jup I (o + 10 + 9 * l) 4 (I (o + 10 + 9 * l) 4 + 1)) (o + 3) 0 (m 699 * 1103515245 + 12345), ju1 (ju1 m (137 + 140 * l) (m (137 + 140 * l) + 1)) 699 (m 699 * 1103515245 + 12345), ?_, fun J hJ => ?_, hk, ?_, ?_, fun r j hr hj => ?_, fun i hi hi2 => ?_, fun j => ?_⟩
      · unfold X4_victimOf
        rw [hc1, if_neg (by decide), if_pos (show nI 8 = (8 : Int32) from rfl), jlet_d, hd3, jup_q, ju1_ne _ _ (by omega), hI0, k1, jb2_some]
      · unfold X7_victim
        rw [of_e 2 l 2 rfl (by omega), ob_some, hJ, show 128 + 140 * l + 2 = 130 + 140 * l by omega, hc2, if_pos (by decide), if_pos (by decide), at_e 9 l 9 rfl, ob_some, if_pos (jin_N (by omega) (by omega)), if_pos (jin_N (by omega) (by omega)), jlet_d, rM0, cl_N (by omega), of_e 0 l 0 rfl (by omega), ob_some, jup_q, hJ, ju1_ne _ _ (by omega), Nat.add_zero, hm0, k2 _ (by rw [jup_q, hJ, ju1_ne _ _ (by omega)]), jb2_some, jup_q, hJ, jup_def, jrow_jrow, show 128 + 140 * l + 9 = 137 + 140 * l by omega]
      · refine hn.congr (fun r h1 h2 => jup_ne _ _ (by omega)) (fun i h1 h2 => ju1_ne _ _ (by omega))
      · rw [jup_q, ju1_eq, ju1_eq]
      · rw [jup_nj _ _ (by omega), jup_nj _ _ (by omega)]
      · rw [ju1_ne _ _ (by omega), ju1_ne _ _ (by omega)]
      · rw [ju1_ne _ _ (by omega), ju1_ne _ _ (by omega)]
    · have hv := h.noted hb hB hc1 (by omega)
      have hw : ∀ J : jI, J 165 = m → X7_noted 164 (nI l) J = _ := fun J hJ => h.notedM hl hB hc2 (by omega) hJ
      cases hq : vbest (vP m l) (vlt m l c) s 0 none with
      | none => exact absurd hq (vbest_ne (Or.inr ⟨0, by omega, by omega, by simpa [vP] using hf 0 (by omega)⟩))
      | some k =>
        obtain ⟨k1, k2⟩ := vbest_in (P := vP m l) (lt := vlt m l c) (d := s) (i := 0) (b := none) (fun j hj => by cases hj) k hq
        rw [hq] at hv hw
        have n7 : ¬ nI c = (7 : Int32) := fun e => by have := (nI_eq (a := c) (b := 7) (by omega) (by omega)).mp e; omega
        have n8 : ¬ nI c = (8 : Int32) := fun e => by have := (nI_eq (a := c) (b := 8) (by omega) (by omega)).mp e; omega
        refine ⟨k, I, m, ?_, fun J hJ => ?_, by omega, h, hg, fun _ _ _ _ => rfl, fun _ _ _ => rfl, fun _ => rfl⟩
        · unfold X4_victimOf
          rw [hc1, if_neg n7, if_neg n8, hv, ob_some]
          rfl
        · unfold X7_victim
          rw [of_e 2 l 2 rfl (by omega), ob_some, hJ, show 128 + 140 * l + 2 = 130 + 140 * l by omega, hc2, if_neg (lge (7 : Int32) 7 rfl (by omega) (by omega)), hw J hJ, ob_some, ← hJ, jrow_id]
          rfl
