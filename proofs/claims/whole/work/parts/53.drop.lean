/-! DROP: on both sides -/
theorem shelfAt_e {s : Nat} (hs : s < 8) : X6_shelfAt 1 (nI s) = some (148 + 2 * s) := by
  unfold X6_shelfAt
  rw [wi_y (nI s) 0 ((8 : Int32) - (1 : Int32)) rfl (by omega) (show (0 : Int32).toInt ≤ (s : Int) by rw [show (0 : Int32).toInt = 0 from rfl]; omega) (by rw [show ((8 : Int32) - (1 : Int32)).toInt = 7 from by decide]; omega), ob_some, if_neg (by decide), if_pos (jin_N hs (by omega)), cl_N (by omega), rT.2.1, (rS s hs).1]
theorem le_m1 {c : Nat} (hc : c < 2147483648) : (-1 : Int32) ≤ nI c := by
  rw [Int32.le_iff_toInt_le, nI_toInt hc, show (-1 : Int32).toInt = -1 from by decide]; omega
theorem ge_m1 {c : Nat} (hc : c < 2147483648) : ¬ nI c ≤ (-1 : Int32) := by
  rw [Int32.le_iff_toInt_le, nI_toInt hc, show (-1 : Int32).toInt = -1 from by decide]; omega
def SHN (I : jI) (s : Nat) : Prop := I (148 + 2 * s) 0 = -1 ∧ I (148 + 2 * s) 1 = -1 ∧ I (148 + 2 * s) 2 = 0
theorem forget_key {c : Nat} : ∀ d n s (I : jI), I 2 1 = nI c → s + d = 8 → d < n → 
    ∃ I', jfx (X6_forgetRules_F1 1) (fun _ _ => none) n (nI s) I = some I' ∧ (∀ r, (r < 148 + 2 * s ∨ 164 ≤ r) → I' r = I r) ∧ ∀ t, s ≤ t → t < 8 → (I (148 + 2 * t) 1 ≤ nI c → I' (148 + 2 * t) = I (148 + 2 * t)) ∧ (¬ I (148 + 2 * t) 1 ≤ nI c → SHN I' t) := by
  intro d
  induction d with
  | zero =>
    intro n s I hc h1 h2
    obtain ⟨n, rfl⟩ : ∃ q, n = q + 1 := ⟨n - 1, by omega⟩
    refine ⟨I, ?_, fun _ _ => rfl, fun t a b => by omega⟩
    rw [jfx_s, X6_forgetRules_F1, if_pos (lle (8 : Int32) 8 rfl (by omega) (by omega))]
  | succ d ih =>
    intro n s I hc h1 h2
    obtain ⟨n, rfl⟩ : ∃ q, n = q + 1 := ⟨n - 1, by omega⟩
    by_cases hle : I (148 + 2 * s) 1 ≤ nI c
    · obtain ⟨I', e1, e2, e3⟩ := ih n (s + 1) I hc (by omega) (by omega)
      refine ⟨I', ?_, fun r hr => e2 r (by omega), fun t a b => ?_⟩
      · rw [jfx_s, X6_forgetRules_F1, if_neg (lge (8 : Int32) 8 rfl (by omega) (by omega)), shelfAt_e (by omega), ob_some, jlet_d, if_neg (by omega), rR.1, hc, if_pos hle, show nI s + (1 : Int32) = nI (s + 1) from nI_1 _]
        exact e1
      · by_cases e : t = s
        · subst e
          exact ⟨fun _ => e2 _ (by omega), fun hn => absurd hle hn⟩
        · exact e3 t (by omega) b
    · obtain ⟨I0, hI0⟩ : ∃ I0, I0 = jup (jup (jup I (148 + 2 * s) 0 (-1)) (148 + 2 * s) 1 (-1)) (148 + 2 * s) 2 0 := ⟨_, rfl⟩
      have e0 : ∀ r, r ≠ 148 + 2 * s → I0 r = I r := fun r hr => by rw [hI0, jup_ne _ _ hr, jup_ne _ _ hr, jup_ne _ _ hr]
      obtain ⟨I', e1, e2, e3⟩ := ih n (s + 1) I0 (by rw [e0 _ (by omega)]; exact hc) (by omega) (by omega)
      refine ⟨I', ?_, fun r hr => by rw [e2 r (by omega), e0 r (by omega)], fun t a b => ?_⟩
      · rw [jfx_s, X6_forgetRules_F1, if_neg (lge (8 : Int32) 8 rfl (by omega) (by omega)), shelfAt_e (by omega), ob_some, jlet_d, if_neg (by omega), rR.1, hc, if_neg hle]
        unfold X3_holdNothing
        rw [jlet_d, jlet_d, jlet_d, ob_some, ← hI0, show nI s + (1 : Int32) = nI (s + 1) from nI_1 _]
        exact e1
      · by_cases e : t = s
        · subst e
          refine ⟨fun hn => absurd hn hle, fun _ => ?_⟩
          unfold SHN
          rw [e2 _ (by omega), hI0]
          simp (disch := omega) only [jup_q, ju1_eq, ju1_ne, true_and, and_self]
        · have := e3 t (by omega) b
          rw [e0 _ (by omega)] at this
          exact this
theorem forget_e {c : Nat} (I : jI) (hc : I 2 1 = nI c) : ∃ I', X6_forgetRules 1 I = some I' ∧ (∀ r, (r < 148 ∨ 164 ≤ r) → I' r = I r) ∧ ∀ t, t < 8 → (I (148 + 2 * t) 1 ≤ nI c → I' (148 + 2 * t) = I (148 + 2 * t)) ∧ (¬ I (148 + 2 * t) 1 ≤ nI c → SHN I' t) := by
  obtain ⟨I', e1, e2, e3⟩ := forget_key (c := c) 8 1000 0 I hc (by omega) (by omega)
  exact ⟨I', e1, fun r hr => e2 r (by omega), fun t ht => e3 t (by omega) ht⟩
def dpR (h c : Int32) : Int32 := if h = (10 : Int32) + c then -1 else h
theorem dropM_key {c : Int32} : ∀ d n s (J : jI), J 165 688 = c → s + d = 8 → d < n → 
    ∃ x : Mn, (∀ k, jfx (X7_drop_F1 164 k) (fun _ _ => none) n (nI s) J = k (jrow J 170 x)) ∧ ∀ t, x t = if s ≤ t ∧ t < 8 then dpR (J 170 t) c else J 170 t := by
  intro d
  induction d with
  | zero =>
    intro n s J hc h1 h2
    obtain ⟨n, rfl⟩ : ∃ q, n = q + 1 := ⟨n - 1, by omega⟩
    refine ⟨J 170, fun k => ?_, fun t => by rw [if_neg (by omega)]⟩
    rw [jfx_s, X7_drop_F1, if_pos (lle (8 : Int32) 8 rfl (by omega) (by omega)), jrow_id]
  | succ d ih =>
    intro n s J hc h1 h2
    obtain ⟨n, rfl⟩ : ∃ q, n = q + 1 := ⟨n - 1, by omega⟩
    obtain ⟨x, e1, e2⟩ := ih n (s + 1) (jup J 170 s (dpR (J 170 s) c)) (by rw [jup_ne _ _ (by omega)]; exact hc) (by omega) (by omega)
    refine ⟨x, fun k => ?_, fun t => ?_⟩
    · have := e1 k
      rw [show jrow (jup J 170 s (dpR (J 170 s) c)) 170 x = jrow J 170 x from jrow_jrow _ _ _ _] at this
      rw [← this, jfx_s, X7_drop_F1, if_neg (lge (8 : Int32) 8 rfl (by omega) (by omega)), if_pos (jin_N (by omega) (by omega)), if_pos (by decide), jlet_d, rM0, rMM.2.2.1, show ((688 : Int32)).toNatClampNeg = 688 from rfl, hc, cl_N (by omega)]
      dsimp only
      rw [if_pos (jin_N (n := s) (N := 8) (by omega) (by omega)), jlet_d, jlet_d, show nI s + (1 : Int32) = nI (s + 1) from nI_1 _]
      unfold dpR
      by_cases e : J 170 s = (10 : Int32) + c
      · rw [if_pos e, if_pos e]
      · rw [if_neg e, if_neg e, if_pos (jin_N (by omega) (by omega)), if_pos (jin_N (by omega) (by omega))]
    · rw [e2 t]
      by_cases e : t = s
      · subst e
        rw [if_neg (by omega), if_pos (by omega), jup_q, ju1_eq]
      · rw [jup_q, ju1_ne _ _ e]
        by_cases e3 : s + 1 ≤ t ∧ t < 8
        · rw [if_pos e3, if_pos (by omega)]
        · rw [if_neg e3, if_neg (by omega)]
theorem ten_e (l : Nat) : (10 : Int32) + nI l = nI (10 + l) := nI_add (a := 10) (b := l)
section SETS
variable {B cnt mode T : Nat} {S : Nat → Nat} {I : jI} {L : jL}
theorem t_drop (h : GG B cnt mode T S I L) : Two B L (X6_drop 1) (X7_drop 164) I := by
  have hc4 := h.1.1.1
  by_cases h0 : cnt = 0
  · subst h0
    exact Two.ref h 3 (by omega) (-55) rx3 (by unfold X6_drop; rw [rR.1, h.1.2.1.1, if_neg (by decide)]; exact jb2_id _) (fun J hJ => by unfold X7_drop; rw [if_pos (by decide), rM0, show ((688 : Int32)).toNatClampNeg = 688 from rfl, hJ 165 (by omega), h.1.2.1.2.1, if_pos n00]; exact jb2_id _)
  · obtain ⟨c, rfl⟩ : ∃ c, cnt = c + 1 := ⟨cnt - 1, by omega⟩
    obtain ⟨I1, m1, s1, s2, s3, s4, s5⟩ := sweepOut_ST OB2 h.1
    obtain ⟨I2, f1, f2, f3⟩ := forget_e (c := c) (jup I1 2 1 (nI c)) (by rw [jup_q, ju1_eq])
    have g2 : ∀ r, r ≠ 2 → (r < 148 ∨ 164 ≤ r) → I2 r = I1 r := fun r a b => by rw [f2 r b, jup_ne _ _ a]
    obtain ⟨x, d1, d2⟩ := dropM_key (c := nI (c + 1)) 8 1000 0 (jrow I2 165 m1) (by rw [jrow_self]; exact s3.2.1.2.1) (by omega) (by omega)
    have hx : ∀ t, t < 8 → x t = dpR (I 170 t) (nI (c + 1)) := fun t ht => by rw [d2 t, if_pos (by omega), jrow_ne _ _ (by omega), g2 _ (by omega) (by omega), s5 170 (by omega)]
    have hsh : ∀ t k, t < 8 → jup I1 2 1 (nI c) (148 + 2 * t) k = I (148 + 2 * t) k := fun t k ht => by rw [jup_ne _ _ (by omega), s5 _ (by omega)]
    refine ⟨nI c, I2, jrow (jrow (jrow I2 165 m1) 170 x) 165 (ju1 m1 688 (nI c)), ?_, ?_, c, mode, T, S, ?_⟩
    · unfold X6_drop
      rw [rR.1, h.1.2.1.1, if_pos (show (0 : Int32) < nI (c + 1) from nI_lt (a := 0) (b := c + 1) (by omega) (by omega)), s1, ob_some, jlet_d, s3.2.1.1, nI_pred, f1, ob_some, f2 2 (by omega), jup_q, ju1_eq]
    · unfold X7_drop
      rw [if_pos (by decide), rM0, show ((688 : Int32)).toNatClampNeg = 688 from rfl, g2 165 (by omega) (by omega), s5 165 (by omega), h.1.2.1.2.1, if_neg (nI_ne0 (by omega) (by omega)), s2 I2 (by rw [g2 165 (by omega) (by omega), s5 165 (by omega)]), ob_some, jlet_d]
      refine (d1 _).trans ?_
      rw [if_pos (by decide), if_pos (by decide), jlet_d, if_pos (by decide), jrow_ne _ _ (show 165 ≠ 170 by omega), jrow_self, s3.2.1.2.1, nI_pred, jup_def, jrow_ne _ _ (show 165 ≠ 170 by omega), jrow_self, jrow_self, ju1_eq]
    · refine (h.mono (B' := B + 32768) (by omega)).shelf ?_ (Nat.le_refl _) (fun r k hr => ?_) (fun t ht => ?_)
      · rw [jrow_self]
        refine ((s3.less (c := c) (by omega)).mono (by omega)).congr (fun r a b => ?_) (fun i _ => rfl)
        rw [jrow_ne _ _ (by omega), jrow_ne _ _ (by omega), jrow_ne _ _ (by omega), f2 r (by omega)]
      · rw [jrow_ne _ _ (by omega), jrow_ne _ _ (by omega), jrow_ne _ _ (by omega), g2 r (by omega) (by omega), s5 r (by omega)]
      · have e170 : jrow (jrow (jrow I2 165 m1) 170 x) 165 (ju1 m1 688 (nI c)) 170 = x := by rw [jrow_ne _ _ (by omega), jrow_self]
        have eo : ∀ r, r ≠ 165 → r ≠ 170 → jrow (jrow (jrow I2 165 m1) 170 x) 165 (ju1 m1 688 (nI c)) r = I2 r := fun r a b => by rw [jrow_ne _ _ a, jrow_ne _ _ b, jrow_ne _ _ a]
        have e171 : I2 171 = I 171 := by rw [g2 _ (by omega) (by omega), s5 _ (by omega)]
        unfold SHF
        rw [e170, eo _ (by omega) (by omega), eo 171 (by omega) (by omega), e171, hx t ht]
        unfold dpR
        obtain ⟨f4, f5⟩ := f3 t ht
        rw [show jup I1 2 1 (nI c) (148 + 2 * t) = I (148 + 2 * t) from by funext k; exact hsh t k ht] at f4 f5
        rcases h.2.1 t ht with ⟨a1, a2, a3, a4⟩ | ⟨l, b1, b2, b3, b4, b5, b6⟩ | ⟨k, n, a1, a2, a3, a4, a5, a6, a7, a8⟩
        · rw [f4 (by rw [a2]; exact le_m1 (by omega)), a4, if_neg (by rw [ten_e]; exact fun e => m1_ne (by omega) e.symm)]
          exact Or.inl ⟨a1, a2, a3, rfl⟩
        · by_cases hl : l ≤ c
          · rw [f4 (by rw [b4]; exact nI_le (by omega) (by omega)), b6, ten_e, if_neg (by rw [nI_eq (by omega) (by omega)]; omega)]
            exact Or.inr (Or.inl ⟨l, b1, hl, b3, b4, b5, rfl⟩)
          · obtain ⟨z1, z2, z3⟩ := f5 (by rw [b4]; exact nI_ge (by omega) (by omega))
            rw [b6, ten_e, if_pos (by congr 2; omega)]
            exact Or.inl ⟨z1, z2, z3, rfl⟩
        · rw [f4 (by rw [a4]; exact le_m1 (by omega)), a6, if_neg (by rw [ten_e, nI_eq (by omega) (by omega)]; omega)]
          exact Or.inr (Or.inr ⟨k, n, a1, a2, a3, a4, a5, rfl, a7, a8⟩)
end SETS
