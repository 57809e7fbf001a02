/-! LEVEL: on both sides -/
theorem begin_e {b : Nat} (hb : LB b) (s c k : Int32) (I : jI) : ∃ I', X2_begin b s c k I = some I' ∧ (∀ r, (r < b ∨ b + 9 ≤ r) → I' r = I r) ∧ (I' b 0 = s ∧ I' b 1 = c ∧ I' b 2 = k) ∧ (∀ j, 3 ≤ j → j ≤ 10 → I' b j = 0) ∧ (∀ j, j < 16 → I' (b + 1) j = -1 ∧ I' (b + 3) j = 0) ∧ (∀ p, p < 64 → I' (b + 8) p = -1) := by
  obtain ⟨I9, hI9⟩ : ∃ I9, I9 = jup (jup (jup (jup (jup (jup (jup (jup (jup I b 0 s) b 1 c) b 2 k) b 4 0) b 5 0) b 6 0) b 7 0) b 8 0) b 9 0 := ⟨_, rfl⟩
  have e9 : ∀ r, r ≠ b → I9 r = I r := fun r hr => by rw [hI9]; simp only [jup_ne _ _ hr]
  obtain ⟨I', a1, a2, a3, a4, a5, a6, a7⟩ := hn_e hb I9
  refine ⟨I', ?_, fun r hr => by rw [a2 r hr, e9 r (by omega)], ⟨?_, ?_, ?_⟩, fun j h1 h2 => ?_, a6, a7⟩
  · unfold X2_begin
    rw [jlet_d, jlet_d, jlet_d, jlet_d, jlet_d, jlet_d, jlet_d, jlet_d, jlet_d, ← hI9, a1, ob_some]
  · rw [a3 0 (by omega) (by omega), hI9]; simp (disch := omega) only [jup_q, ju1_eq, ju1_ne]
  · rw [a3 1 (by omega) (by omega), hI9]; simp (disch := omega) only [jup_q, ju1_eq, ju1_ne]
  · rw [a3 2 (by omega) (by omega), hI9]; simp (disch := omega) only [jup_q, ju1_eq, ju1_ne]
  · by_cases e3 : j = 3
    · rw [e3]; exact a4
    · by_cases e10 : j = 10
      · rw [e10]; exact a5
      · rw [a3 j e3 e10, hI9]
        obtain rfl | rfl | rfl | rfl | rfl | rfl : j = 4 ∨ j = 5 ∨ j = 6 ∨ j = 7 ∨ j = 8 ∨ j = 9 := by omega
        all_goals simp (disch := omega) only [jup_q, ju1_eq, ju1_ne]
theorem zero_key {l : Nat} (hl : l < 4) : ∀ d n j (m : Mn), j + d = 140 → d < n →
    ∃ m' : Mn, (∀ J : jI, J 165 = m → ∀ k, jfx (X7_level_F2 164 (nI l) k) (fun _ _ => none) n (nI j) J = k (jrow J 165 m')) ∧ (∀ i, 128 + 140 * l + j ≤ i → i < 268 + 140 * l → m' i = 0) ∧ (∀ i, (i < 128 + 140 * l + j ∨ 268 + 140 * l ≤ i) → m' i = m i) := by
  intro d
  induction d with
  | zero =>
    intro n j m h1 h2
    obtain ⟨n, rfl⟩ : ∃ q, n = q + 1 := ⟨n - 1, by omega⟩
    refine ⟨m, fun J hJ k => ?_, fun i a b => by omega, fun _ _ => rfl⟩
    rw [jfx_s, X7_level_F2, if_pos (lle (140 : Int32) 140 rfl (by omega) (by omega)), ← hJ, jrow_id]
  | succ d ih =>
    intro n j m h1 h2
    obtain ⟨n, rfl⟩ : ∃ q, n = q + 1 := ⟨n - 1, by omega⟩
    obtain ⟨m', e1, e2, e3⟩ := ih n (j + 1) (ju1 m (128 + 140 * l + j) 0) (by omega) (by omega)
    refine ⟨m', fun J hJ k => ?_, fun i a b => ?_, fun i hi => by rw [e3 i (by omega), ju1_ne _ _ (by omega)]⟩
    · rw [jfx_s, X7_level_F2, if_neg (lge (140 : Int32) 140 rfl (by omega) (by omega)), at_e (nI j) l j rfl, ob_some, if_pos (jin_N (by omega) (by omega)), jlet_d, rM0, cl_N (by omega), show nI j + (1 : Int32) = nI (j + 1) from nI_1 _]
      rw [e1 _ (by rw [jup_q, hJ]) k, jup_def, jrow_jrow]
    · by_cases e : i = 128 + 140 * l + j
      · rw [e3 i (by omega), e, ju1_eq]
      · exact e2 i (by omega) b
theorem empL {l : Nat} (hl : l < 4) : ∀ d n k (m : Mn), k + d = 16 → d < n → (∀ j, j < k → m (140 + 140 * l + 7 * j) = -1) →
    ∃ m' : Mn, (∀ J : jI, J 165 = m → ∀ kM, jfx (X7_level_F1 164 (nI l) kM) (fun _ _ => none) n (nI k) J = kM (jrow J 165 m')) ∧ (∀ i, (∀ j, j < 16 → i ≠ 140 + 140 * l + 7 * j) → m' i = m i) ∧ (∀ j, j < 16 → m' (140 + 140 * l + 7 * j) = -1) := by
  intro d
  induction d with
  | zero =>
    intro n k m a1 a2 a3
    obtain ⟨n, rfl⟩ : ∃ q, n = q + 1 := ⟨n - 1, by omega⟩
    refine ⟨m, fun J hJ kM => ?_, fun _ _ => rfl, fun j hj => a3 j (by omega)⟩
    rw [jfx_s, X7_level_F1, if_pos (lle (16 : Int32) 16 rfl (by omega) (by omega)), ← hJ, jrow_id]
  | succ d ih =>
    intro n k m a1 a2 a3
    obtain ⟨n, rfl⟩ : ∃ q, n = q + 1 := ⟨n - 1, by omega⟩
    obtain ⟨m', e1, e2, e3⟩ := ih n (k + 1) (ju1 m (140 + 140 * l + 7 * k) (-1)) (by omega) (by omega) (fun j hj => by
      by_cases e : j = k
      · subst e; rw [ju1_eq]
      · rw [ju1_ne _ _ (by omega)]; exact a3 j (by omega))
    refine ⟨m', fun J hJ kM => ?_, fun i hi => by rw [e2 i hi, ju1_ne _ _ (hi k (by omega))], e3⟩
    rw [jfx_s, X7_level_F1, if_neg (lge (16 : Int32) 16 rfl (by omega) (by omega))]
    unfold X7_empties
    rw [slotAt_e 0 l k 0 rfl, ob_some, if_pos (jin_N (by omega) (by omega)), jlet_d, ob_some, rM0, cl_N (by omega), Nat.add_zero, show nI k + (1 : Int32) = nI (k + 1) from nI_1 k]
    rw [e1 _ (by rw [jup_q, hJ]) kM, jup_def, jrow_jrow]
/-- a level that begins -/
theorem LR.begun {B b : Nat} {I : jI} {m : Mn} {l s c k : Nat} (hs : 1 ≤ s ∧ s ≤ 16) (hc : c ≤ 99) (hk : 3 ≤ k ∧ k ≤ 8) (h0 : I b 0 = nI s ∧ I b 1 = nI c ∧ I b 2 = nI k) (h3 : ∀ j, 3 ≤ j → j ≤ 10 → I b j = 0) (h4 : ∀ j, j < 16 → I (b + 1) j = -1 ∧ I (b + 3) j = 0) (h5 : ∀ p, p < 64 → I (b + 8) p = -1)
    (m0 : m (128 + 140 * l) = nI s ∧ m (129 + 140 * l) = nI c ∧ m (130 + 140 * l) = nI k) (m1 : ∀ i, 131 ≤ i → i ≤ 137 → m (i + 140 * l) = 0) (m3 : ∀ j, j < 16 → m (140 + 140 * l + 7 * j) = -1) : LR B b I m l s := by
  have hocc : occ m l 16 = 0 := by
    have e := occ_ext (m := m) (l := l) (s := 0) (n := 16) (by omega) (fun k _ hk => m3 k hk)
    rw [e]; rfl
  refine ⟨⟨hs, ⟨h0.1, m0.1⟩, ⟨c, hc, h0.2.1, m0.2.1⟩, ⟨k, hk, h0.2.2, m0.2.2⟩, ⟨0, by omega, h3 3 (by omega) (by omega), m1 131 (by omega) (by omega)⟩, ?_, ?_, ?_, ?_, ?_, ?_, ?_⟩, fun j hj => ⟨by rw [(h4 j hj).1, m3 j hj], Or.inl ⟨m3 j hj, (h4 j hj).2⟩⟩, fun p hp => Or.inl (h5 p hp)⟩
  · rw [h3 4 (by omega) (by omega), m1 137 (by omega) (by omega)]
  · rw [h3 5 (by omega) (by omega), m1 132 (by omega) (by omega)]
  · rw [h3 6 (by omega) (by omega), m1 133 (by omega) (by omega)]
  · rw [h3 7 (by omega) (by omega), m1 134 (by omega) (by omega)]
  · rw [h3 8 (by omega) (by omega), m1 135 (by omega) (by omega)]
  · rw [h3 9 (by omega) (by omega), m1 136 (by omega) (by omega)]
  · rw [h3 10 (by omega) (by omega), hocc]; rfl
section SETS
variable {B cnt mode T : Nat} {S : Nat → Nat} {I : jI} {L : jL}
theorem t_level (h : GG B cnt mode T S I L) (x y z : Int32) : Two B L (X6_level 1 x y z) (X7_level 164 x y z) I := by
  have hc4 := h.1.1.1
  rcases wi_c x 1 16 1 16 rfl rfl with hx | ⟨hx, s, hs1, hs2, -, rfl⟩
  · exact Two.ref h 0 (by omega) (-52) rx0 (by unfold X6_level; rw [hx, ob_some, if_pos rfl]; exact jb2_id _) (fun J _ => by unfold X7_level; rw [within_e x 1 16 1 16 rfl rfl, hx, ob_some, if_pos rfl]; exact jb2_id _)
  rcases wi_c y 0 99 0 99 rfl rfl with hy | ⟨hy, c, -, hc2, -, rfl⟩
  · exact Two.ref h 0 (by omega) (-52) rx0 (by unfold X6_level; rw [hx, ob_some, if_neg (by decide), hy, ob_some, if_pos rfl]; exact jb2_id _) (fun J _ => by unfold X7_level; rw [within_e _ 1 16 1 16 rfl rfl, hx, ob_some, if_neg (by decide), within_e y 0 99 0 99 rfl rfl, hy, ob_some, if_pos rfl]; exact jb2_id _)
  rcases wi_c z 3 8 3 8 rfl rfl with hz | ⟨hz, k, hk1, hk2, -, rfl⟩
  · exact Two.ref h 0 (by omega) (-52) rx0 (by unfold X6_level; rw [hx, ob_some, if_neg (by decide), hy, ob_some, if_neg (by decide), hz, ob_some, if_pos rfl]; exact jb2_id _) (fun J _ => by unfold X7_level; rw [within_e _ 1 16 1 16 rfl rfl, hx, ob_some, if_neg (by decide), within_e _ 0 99 0 99 rfl rfl, hy, ob_some, if_neg (by decide), within_e z 3 8 3 8 rfl rfl, hz, ob_some, if_pos rfl]; exact jb2_id _)
  by_cases h4 : cnt = 4
  · subst h4
    exact Two.ref h 4 (by omega) (-56) rx4 (by unfold X6_level; rw [hx, ob_some, if_neg (by decide), hy, ob_some, if_neg (by decide), hz, ob_some, if_neg (by decide), rR.1, h.1.2.1.1, if_neg (by decide)]; exact jb2_id _) (fun J hJ => by unfold X7_level; rw [within_e _ 1 16 1 16 rfl rfl, hx, ob_some, if_neg (by decide), within_e _ 0 99 0 99 rfl rfl, hy, ob_some, if_neg (by decide), within_e _ 3 8 3 8 rfl rfl, hz, ob_some, if_neg (by decide), if_pos (by decide), rM0, show ((688 : Int32)).toNatClampNeg = 688 from rfl, hJ 165 (by omega), h.1.2.1.2.1, if_pos (by decide)]; exact jb2_id _)
  · obtain ⟨I1, m1, s1, s2, s3, s4, s5⟩ := sweepOut_ST OB2 h.1
    have hcnt : cnt < 4 := by omega
    have hlb := LB_o OB2 hcnt
    obtain ⟨I2, hI2⟩ : ∃ I2, I2 = jup I1 2 1 (nI (cnt + 1)) := ⟨_, rfl⟩
    obtain ⟨I3, b1, b2, b3, b4, b5, b6⟩ := begin_e hlb (nI s) (nI c) (nI k) I2
    have e3 : ∀ r j, (r < 2 + 10 + 9 * cnt ∨ 2 + 10 + 9 * cnt + 9 ≤ r) → (r ≠ 2 ∨ j ≠ 1) → I3 r j = I1 r j := fun r j a b => by rw [b2 r a, hI2, jup_nj _ _ b]
    have e3r : ∀ r, (r < 2 ∨ 48 ≤ r) → I3 r = I r := fun r hr => by funext j; rw [e3 r j (by omega) (by omega), s5 r (by omega)]
    obtain ⟨m2, z1, z2, z3⟩ := zero_key hcnt 140 1000 0 m1 (by omega) (by omega)
    obtain ⟨m3, y1, y2, y3⟩ := empL hcnt 16 1000 0 m2 (by omega) (by omega) (fun j hj => by omega)
    obtain ⟨m4, hm4⟩ : ∃ m4, m4 = ju1 (ju1 (ju1 (ju1 m3 (128 + 140 * cnt) (nI s)) (129 + 140 * cnt) (nI c)) (130 + 140 * cnt) (nI k)) 688 (nI (cnt + 1)) := ⟨_, rfl⟩
    have em : ∀ i, (i < 128 + 140 * cnt ∨ 268 + 140 * cnt ≤ i) → i ≠ 688 → m4 i = m1 i := fun i a b => by
      rw [hm4, ju1_ne _ _ b, ju1_ne _ _ (by omega), ju1_ne _ _ (by omega), ju1_ne _ _ (by omega), y2 i (fun j hj => by omega), z3 i (by omega)]
    have hm688 : m3 688 = nI cnt := by rw [y2 _ (fun j hj => by omega), z3 _ (by omega)]; exact s3.2.1.2.1
    refine ⟨nI (cnt + 1), I3, jrow I3 165 m4, ?_, ?_, cnt + 1, mode, T, fun j => if j = cnt then s else S j, (h.row (B' := B) (m' := m4) ?_ (Nat.le_refl _) e3r (by omega)).mono (by omega)⟩
    · unfold X6_level
      rw [hx, ob_some, if_neg (by decide), hy, ob_some, if_neg (by decide), hz, ob_some, if_neg (by decide), rR.1, h.1.2.1.1, if_pos (llt (4 : Int32) 4 rfl (by omega) (by omega)), s1, ob_some, jlet_d, s3.2.1.1, show nI cnt + (1 : Int32) = nI (cnt + 1) from nI_1 _, ← hI2, hI2, jup_q, ju1_eq, ← hI2, levelAt_e OB2 I2 (cnt := cnt + 1) (by rw [hI2, jup_q, ju1_eq]) (by omega) (show cnt < cnt + 1 by omega), ob_some, if_neg hlb.1, b1, ob_some, b2 2 (by omega), hI2, jup_q, ju1_eq]
    · unfold X7_level
      rw [within_e _ 1 16 1 16 rfl rfl, hx, ob_some, if_neg (by decide), within_e _ 0 99 0 99 rfl rfl, hy, ob_some, if_neg (by decide), within_e _ 3 8 3 8 rfl rfl, hz, ob_some, if_neg (by decide), if_pos (by decide), rM0, show ((688 : Int32)).toNatClampNeg = 688 from rfl, e3r 165 (by omega), h.1.2.1.2.1, if_neg (fun e => h4 ((nI_eq (by omega) (by omega)).mp (e.trans (show (4 : Int32) = nI 4 from rfl)))), s2 I3 (e3r 165 (by omega)), ob_some, if_pos (by decide), jlet_d, jrow_self, s3.2.1.2.1, jlet_d]
      refine (z1 _ (jrow_self _ _ _) _).trans ?_
      rw [jrow_jrow, jlet_d]
      refine (y1 _ (jrow_self _ _ _) _).trans ?_
      rw [jrow_jrow, at_e 0 cnt 0 rfl, ob_some, if_pos (jin_N (by omega) (by omega)), jlet_d, at_e 1 cnt 1 rfl, ob_some, if_pos (jin_N (by omega) (by omega)), jlet_d, at_e 2 cnt 2 rfl, ob_some, if_pos (jin_N (by omega) (by omega)), jlet_d, if_pos (by decide), if_pos (by decide), jlet_d, if_pos (by decide), cl_N (by omega), cl_N (by omega), cl_N (by omega), jrow_jup, jrow_jup, jrow_jup, jrow_self, jrow_jup, jrow_self, ju1_eq, Nat.add_zero, show 128 + 140 * cnt + 1 = 129 + 140 * cnt by omega, show 128 + 140 * cnt + 2 = 130 + 140 * cnt by omega, ju1_ne _ _ (show 688 ≠ 130 + 140 * cnt by omega), ju1_ne _ _ (show 688 ≠ 129 + 140 * cnt by omega), ju1_ne _ _ (show 688 ≠ 128 + 140 * cnt by omega), hm688, show nI cnt + (1 : Int32) = nI (cnt + 1) from nI_1 _, ← hm4]
    · obtain ⟨⟨r, a1, a2, a3⟩, a4⟩ := s3.2.2.2.2.2.1
      obtain ⟨⟨g1, g1', g1''⟩, ⟨x1, x2, x3, x4, x5, x6⟩, g3, g4, g5, g6, g7⟩ := s3
      have hE : EMP m4 (cnt + 1) := fun l hl => by
        by_cases e : l = cnt
        · subst e
          have f : ∀ i, 131 + 140 * l ≤ i → i < 268 + 140 * l → m4 i = m3 i := fun i a b => by rw [hm4, ju1_ne _ _ (by omega), ju1_ne _ _ (by omega), ju1_ne _ _ (by omega), ju1_ne _ _ (by omega)]
          refine ⟨?_, fun j hj => by rw [f _ (by omega) (by omega)]; exact y3 j hj⟩
          rw [f _ (by omega) (by omega), y2 _ (fun j hj => by omega), z2 _ (by omega) (by omega)]
        · obtain ⟨w1, w2⟩ := s4 l (by omega)
          exact ⟨by rw [em _ (by omega) (by omega)]; exact w1, fun j hj => by rw [em _ (by omega) (by omega)]; exact w2 j hj⟩
      refine ⟨⟨by omega, g1', g1''⟩, ⟨?_, ?_, ?_, ?_, ?_, ?_⟩, fun j hj => ?_, g4.congr (by funext p; exact e3 _ _ (by omega) (by omega)) (e3 _ _ (by omega) (by omega)) (e3 _ _ (by omega) (by omega)) (e3 _ _ (by omega) (by omega)) (fun i hi => em i (by omega) (by omega)), fun _ => hE.exf, ⟨⟨r, a1, ?_, ?_⟩, ?_⟩, g7.keep (fun f hf => e3 _ _ (by omega) (by omega)) (fun r k hr => e3 _ _ (by omega) (by omega)) (fun i hi => em i (by omega) (by omega))⟩
      · rw [b2 _ (by omega), hI2, jup_q, ju1_eq]
      · rw [hm4, ju1_eq]
      · rw [e3 _ _ (by omega) (by omega)]; exact x3
      · rw [em _ (by omega) (by omega)]; exact x4
      · rw [e3 _ _ (by omega) (by omega)]; exact x5
      · rw [em _ (by omega) (by omega)]; exact x6
      · by_cases e : j = cnt
        · subst e
          dsimp only
          rw [if_pos rfl]
          have f : ∀ i, 131 + 140 * j ≤ i → i < 268 + 140 * j → m4 i = m3 i := fun i a b => by rw [hm4, ju1_ne _ _ (by omega), ju1_ne _ _ (by omega), ju1_ne _ _ (by omega), ju1_ne _ _ (by omega)]
          refine LR.begun ⟨by omega, by omega⟩ (c := c) (by omega) (k := k) ⟨by omega, by omega⟩ b3 b4 b5 b6 ⟨?_, ?_, ?_⟩ (fun i i1 i2 => ?_) (fun i hi => by rw [f _ (by omega) (by omega)]; exact y3 i hi)
          · rw [hm4]; simp (disch := omega) only [ju1_eq, ju1_ne]
          · rw [hm4]; simp (disch := omega) only [ju1_eq, ju1_ne]
          · rw [hm4]; simp (disch := omega) only [ju1_eq, ju1_ne]
          · rw [f _ (by omega) (by omega), y2 _ (fun jj hjj => by omega), z2 _ (by omega) (by omega)]
        · dsimp only
          rw [if_neg e]
          exact (g3 j (by omega)).congr (fun r _ _ => by funext w; exact e3 _ _ (by omega) (by omega)) (fun i _ _ => em i (by omega) (by omega))
      · rw [e3 _ _ (by omega) (by omega)]; exact a2
      · rw [em _ (by omega) (by omega)]; exact a3
      · rw [e3 _ _ (by omega) (by omega), em _ (by omega) (by omega), em _ (by omega) (by omega)]; exact a4
end SETS
