/-! A LEVEL that is emptied: on both sides -/
theorem hnF2 {b : Nat} (hb : LB b) : ∀ d n k (I : jI), k + d = 16 → d < n → (∀ j, j < k → I (b + 1) j = -1 ∧ I (b + 3) j = 0) →
    ∃ I', (∀ kC, jfx (X2_holdNothing_F2 b kC) (fun _ _ => none) n (nI k) I = kC I') ∧ (∀ r, r ≠ b + 1 → r ≠ b + 3 → r ≠ b + 7 → I' r = I r) ∧ (∀ j, j < 16 → I' (b + 1) j = -1 ∧ I' (b + 3) j = 0) := by
  obtain ⟨h0, h1, h2, h3, h4, h5, h6, h7, h8⟩ := hb
  intro d
  induction d with
  | zero =>
    intro n k I a1 a2 a3
    obtain ⟨n, rfl⟩ : ∃ q, n = q + 1 := ⟨n - 1, by omega⟩
    refine ⟨I, fun kC => ?_, fun _ _ _ _ => rfl, fun j hj => a3 j (by omega)⟩
    rw [jfx_s, X2_holdNothing_F2, if_pos (lle (16 : Int32) 16 rfl (by omega) (by omega))]
  | succ d ih =>
    intro n k I a1 a2 a3
    obtain ⟨n, rfl⟩ : ∃ q, n = q + 1 := ⟨n - 1, by omega⟩
    obtain ⟨I', e1, e2, e3⟩ := ih n (k + 1) (jup (jup (jup I (b + 1) k (-1)) (b + 3) k 0) (b + 7) k 0) (by omega) (by omega) (fun j hj => by
      by_cases e : j = k
      · subst e
        constructor <;> simp (disch := omega) only [jup_q, jup_ne, ju1_eq]
      · obtain ⟨z1, z2⟩ := a3 j (by omega)
        constructor
        · rw [jup_ne _ _ (by omega), jup_ne _ _ (by omega), jup_q, ju1_ne _ _ e]; exact z1
        · rw [jup_ne _ _ (by omega), jup_q, ju1_ne _ _ e, jup_ne _ _ (by omega)]; exact z2)
    refine ⟨I', fun kC => ?_, fun r r1 r2 r3 => ?_, e3⟩
    · rw [jfx_s, X2_holdNothing_F2, if_neg (lge (16 : Int32) 16 rfl (by omega) (by omega)), if_pos (jin_N (by omega) (by omega)), jlet_d, if_pos (jin_N (by omega) (by omega)), jlet_d, if_pos (jin_N (by omega) (by omega)), jlet_d, h1, h3, h7, cl_N (by omega), show jnz 0 = 0 from rfl, show nI k + (1 : Int32) = nI (k + 1) from nI_1 k]
      exact e1 kC
    · rw [e2 r r1 r2 r3, jup_ne _ _ r3, jup_ne _ _ r2, jup_ne _ _ r1]
theorem hnF1 {b : Nat} (hb : LB b) : ∀ d n k (I : jI), k + d = 64 → d < n → (∀ j, j < k → I (b + 8) j = -1) →
    ∃ I', jfx (X2_holdNothing_F1 b) (fun _ _ => none) n (nI k) I = some I' ∧ (∀ r, r ≠ b + 8 → I' r = I r) ∧ (∀ j, j < 64 → I' (b + 8) j = -1) := by
  obtain ⟨h0, h1, h2, h3, h4, h5, h6, h7, h8⟩ := hb
  intro d
  induction d with
  | zero =>
    intro n k I a1 a2 a3
    obtain ⟨n, rfl⟩ : ∃ q, n = q + 1 := ⟨n - 1, by omega⟩
    refine ⟨I, ?_, fun _ _ => rfl, fun j hj => a3 j (by omega)⟩
    rw [jfx_s, X2_holdNothing_F1, if_pos (lle (64 : Int32) 64 rfl (by omega) (by omega))]
  | succ d ih =>
    intro n k I a1 a2 a3
    obtain ⟨n, rfl⟩ : ∃ q, n = q + 1 := ⟨n - 1, by omega⟩
    obtain ⟨I', e1, e2, e3⟩ := ih n (k + 1) (jup I (b + 8) k (-1)) (by omega) (by omega) (fun j hj => by
      by_cases e : j = k
      · subst e; rw [jup_q, ju1_eq]
      · rw [jup_q, ju1_ne _ _ e]; exact a3 j (by omega))
    refine ⟨I', ?_, fun r r1 => by rw [e2 r r1, jup_ne _ _ r1], e3⟩
    rw [jfx_s, X2_holdNothing_F1, if_neg (lge (64 : Int32) 64 rfl (by omega) (by omega)), if_pos (jin_N (by omega) (by omega)), jlet_d, h8, cl_N (by omega), show nI k + (1 : Int32) = nI (k + 1) from nI_1 k]
    exact e1
theorem hn_e {b : Nat} (hb : LB b) (I : jI) : ∃ I', X2_holdNothing b I = some I' ∧ (∀ r, (r < b ∨ b + 9 ≤ r) → I' r = I r) ∧ (∀ j, j ≠ 3 → j ≠ 10 → I' b j = I b j) ∧ I' b 3 = 0 ∧ I' b 10 = 0 ∧ (∀ j, j < 16 → I' (b + 1) j = -1 ∧ I' (b + 3) j = 0) ∧ (∀ p, p < 64 → I' (b + 8) p = -1) := by
  obtain ⟨I1, e1, e2, e3⟩ := hnF2 hb 16 1000 0 (jup (jup I b 3 0) b 10 0) (by omega) (by omega) (fun j hj => by omega)
  obtain ⟨I', f1, f2, f3⟩ := hnF1 hb 64 1000 0 I1 (by omega) (by omega) (fun j hj => by omega)
  refine ⟨I', ?_, fun r hr => ?_, fun j j1 j2 => ?_, ?_, ?_, fun j hj => ?_, f3⟩
  · unfold X2_holdNothing
    rw [jlet_d, jlet_d, jlet_d]
    exact (e1 _).trans f1
  · rw [f2 r (by omega), e2 r (by omega) (by omega) (by omega), jup_ne _ _ (by omega), jup_ne _ _ (by omega)]
  · rw [f2 b (by omega), e2 b (by omega) (by omega) (by omega), jup_q, ju1_ne _ _ j2, jup_q, ju1_ne _ _ j1]
  · rw [f2 b (by omega), e2 b (by omega) (by omega) (by omega), jup_q, ju1_ne _ _ (by omega), jup_q, ju1_eq]
  · rw [f2 b (by omega), e2 b (by omega) (by omega) (by omega), jup_q, ju1_eq]
  · rw [f2 _ (by omega), f2 _ (by omega)]; exact e3 j hj
theorem empM {l : Nat} (hl : l < 4) : ∀ d n k (m : Mn), k + d = 16 → d < n → (∀ j, j < k → m (140 + 140 * l + 7 * j) = -1) →
    ∃ m' : Mn, (∀ J : jI, J 165 = m → ∀ kM, jfx (X7_sweepsOut_F1 164 (nI l) kM) (fun _ _ => none) n (nI k) J = kM (jrow J 165 m')) ∧ (∀ i, (∀ j, j < 16 → i ≠ 140 + 140 * l + 7 * j) → m' i = m i) ∧ (∀ j, j < 16 → m' (140 + 140 * l + 7 * j) = -1) := by
  intro d
  induction d with
  | zero =>
    intro n k m a1 a2 a3
    obtain ⟨n, rfl⟩ : ∃ q, n = q + 1 := ⟨n - 1, by omega⟩
    refine ⟨m, fun J hJ kM => ?_, fun _ _ => rfl, fun j hj => a3 j (by omega)⟩
    rw [jfx_s, X7_sweepsOut_F1, if_pos (lle (16 : Int32) 16 rfl (by omega) (by omega)), ← hJ, jrow_id]
  | succ d ih =>
    intro n k m a1 a2 a3
    obtain ⟨n, rfl⟩ : ∃ q, n = q + 1 := ⟨n - 1, by omega⟩
    obtain ⟨m', e1, e2, e3⟩ := ih n (k + 1) (ju1 m (140 + 140 * l + 7 * k) (-1)) (by omega) (by omega) (fun j hj => by
      by_cases e : j = k
      · subst e; rw [ju1_eq]
      · rw [ju1_ne _ _ (by omega)]; exact a3 j (by omega))
    refine ⟨m', fun J hJ kM => ?_, fun i hi => by rw [e2 i hi, ju1_ne _ _ (hi k (by omega))], e3⟩
    rw [jfx_s, X7_sweepsOut_F1, if_neg (lge (16 : Int32) 16 rfl (by omega) (by omega))]
    unfold X7_empties
    rw [slotAt_e 0 l k 0 rfl, ob_some, if_pos (jin_N (by omega) (by omega)), jlet_d, ob_some, rM0, cl_N (by omega), Nat.add_zero, show nI k + (1 : Int32) = nI (k + 1) from nI_1 k]
    rw [e1 _ (by rw [jup_q, hJ]) kM, jup_def, jrow_jrow]
theorem LR.emptied {B b : Nat} {I I' : jI} {m m' : Mn} {l s : Nat} (h : LR B b I m l s) (h1 : ∀ j, j ≠ 3 → j ≠ 10 → I' b j = I b j) (h2 : I' b 3 = 0) (h3 : I' b 10 = 0) (h4 : ∀ j, j < 16 → I' (b + 1) j = -1 ∧ I' (b + 3) j = 0) (h5 : ∀ p, p < 64 → I' (b + 8) p = -1)
    (m1 : ∀ i, 128 + 140 * l ≤ i → i < 140 + 140 * l → i ≠ 131 + 140 * l → m' i = m i) (m2 : m' (131 + 140 * l) = 0) (m3 : ∀ j, j < 16 → m' (140 + 140 * l + 7 * j) = -1) : LR B b I' m' l s := by
  have hocc : occ m' l 16 = 0 := by
    have e := occ_ext (m := m') (l := l) (s := 0) (n := 16) (by omega) (fun k _ hk => m3 k hk)
    rw [e]; rfl
  obtain ⟨⟨a1, a2, a3, a4, a5, a6, a7, a8, a9, a10, a11, a12⟩, -, -⟩ := h
  refine ⟨?_, fun k hk => ⟨?_, Or.inl ⟨m3 k hk, (h4 k hk).2⟩⟩, fun p hp => Or.inl (h5 p hp)⟩
  · unfold LSC
    rw [h1 0 (by omega) (by omega), h1 1 (by omega) (by omega), h1 2 (by omega) (by omega), h1 4 (by omega) (by omega), h1 5 (by omega) (by omega), h1 6 (by omega) (by omega), h1 7 (by omega) (by omega), h1 8 (by omega) (by omega), h1 9 (by omega) (by omega), h2, h3, m2, m1 (128 + 140 * l) (by omega) (by omega) (by omega), m1 (129 + 140 * l) (by omega) (by omega) (by omega), m1 (130 + 140 * l) (by omega) (by omega) (by omega), m1 (132 + 140 * l) (by omega) (by omega) (by omega), m1 (133 + 140 * l) (by omega) (by omega) (by omega), m1 (134 + 140 * l) (by omega) (by omega) (by omega), m1 (135 + 140 * l) (by omega) (by omega) (by omega), m1 (136 + 140 * l) (by omega) (by omega) (by omega), m1 (137 + 140 * l) (by omega) (by omega) (by omega), hocc]
    exact ⟨a1, a2, a3, a4, ⟨0, by omega, rfl, rfl⟩, a6, a7, a8, a9, a10, a11, rfl⟩
  · rw [(h4 k hk).1, m3 k hk]
