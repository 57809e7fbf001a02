/-! IMAGE and BACK: on both sides -/
def bkR (h c : Int32) : Int32 := if h ≤ (9 : Int32) then h else if c ≤ h - (11 : Int32) then -1 else h
theorem backM_key {c : Int32} : ∀ d n s (J : jI), J 165 688 = c → s + d = 8 → d < n → 
    ∃ x : Mn, jfx (X7_back_F1 164) (fun _ _ => none) n (nI s) J = some (1, jrow J 170 x) ∧ ∀ t, x t = if s ≤ t ∧ t < 8 then bkR (J 170 t) c else J 170 t := by
  intro d
  induction d with
  | zero =>
    intro n s J hc h1 h2
    obtain ⟨n, rfl⟩ : ∃ q, n = q + 1 := ⟨n - 1, by omega⟩
    refine ⟨J 170, ?_, fun t => by rw [if_neg (by omega)]⟩
    rw [jfx_s, X7_back_F1, if_pos (lle (8 : Int32) 8 rfl (by omega) (by omega)), jrow_id]
  | succ d ih =>
    intro n s J hc h1 h2
    obtain ⟨n, rfl⟩ : ∃ q, n = q + 1 := ⟨n - 1, by omega⟩
    obtain ⟨x, e1, e2⟩ := ih n (s + 1) (jup J 170 s (bkR (J 170 s) c)) (by rw [jup_ne _ _ (by omega)]; exact hc) (by omega) (by omega)
    refine ⟨x, ?_, fun t => ?_⟩
    · have hj : jin (nI s) 8 := jin_N (by omega) (by omega)
      rw [show jrow (jup J 170 s (bkR (J 170 s) c)) 170 x = jrow J 170 x from jrow_jrow _ _ _ _] at e1
      rw [← e1, jfx_s, X7_back_F1, if_neg (lge (8 : Int32) 8 rfl (by omega) (by omega)), if_pos hj, jlet_d, rM0, rMM.2.2.1, show ((688 : Int32)).toNatClampNeg = 688 from rfl, hc, cl_N (by omega), show nI s + (1 : Int32) = nI (s + 1) from nI_1 _]
      unfold bkR
      by_cases h9 : J 170 s ≤ (9 : Int32)
      · rw [if_pos h9, if_pos h9, jup_id _ _ _ rfl]
      · rw [if_neg h9, if_neg h9, if_pos hj, jlet_d, if_pos (by decide), jlet_d, jlet_d]
        by_cases h10 : c ≤ J 170 s - (11 : Int32)
        · rw [if_pos h10, if_pos rfl]
          dsimp only
          rw [if_pos hj, jlet_d, if_pos h10]
        · rw [if_neg h10, if_neg (by decide), if_pos hj]
          dsimp only
          rw [if_pos hj, jlet_d, if_neg h10]
    · rw [e2 t]
      by_cases e : t = s
      · subst e
        rw [if_neg (by omega), if_pos (by omega), jup_q, ju1_eq]
      · rw [jup_q, ju1_ne _ _ e]
        by_cases e3 : s + 1 ≤ t ∧ t < 8
        · rw [if_pos e3, if_pos (by omega)]
        · rw [if_neg e3, if_neg (by omega)]
theorem m11_e (l : Nat) : nI (10 + (l + 1)) - (11 : Int32) = nI l := by
  rw [show 10 + (l + 1) = l + 11 by omega, ← nI_add, show nI 11 = (11 : Int32) from rfl, Int32.add_sub_cancel]
theorem lnle9 {r : Nat} (h1 : 10 ≤ r) (h2 : r < 2147483648) : ¬ nI r ≤ (9 : Int32) := nI_ge (a := 9) (b := r) h1 h2
section SETS
variable {B cnt mode T : Nat} {S : Nat → Nat} {I : jI} {L : jL}
theorem t_image (h : GG B cnt mode T S I L) : Two B L (X6_image 1) (X7_image 164) I := by
  obtain ⟨I1, t1, t2, t3⟩ := takeS OB94 OB2 (by omega) h.1
  obtain ⟨x, p1, p2, p3⟩ := pours_e (a := 165) (b := 166) (by omega) (jup I1 1 3 1)
  have e1 : ∀ r, (r < 94 ∨ 140 ≤ r) → r ≠ 1 → jup I1 1 3 1 r = I r := fun r a b => by rw [jup_ne _ _ b, t3 r (by omega)]
  obtain ⟨I2, hI2⟩ : ∃ I2, I2 = jup (jrow (jup I1 1 3 1) 166 x) 164 3 1 := ⟨_, rfl⟩
  have e2 : ∀ r, r ≠ 164 → r ≠ 166 → I2 r = jup I1 1 3 1 r := fun r a b => by rw [hI2, jup_ne _ _ a, jrow_ne _ _ b]
  have e3 : ∀ r, (r < 94 ∨ 140 ≤ r) → r ≠ 1 → r ≠ 164 → r ≠ 166 → I2 r = I r := fun r a b c d => by rw [e2 r c d, e1 r a b]
  refine ⟨1, jup I1 1 3 1, I2, ?_, ?_, cnt, mode, T, S, ?_⟩
  · unfold X6_image
    rw [rR.1, rR.2.2, t1, ob_some, jlet_d]
  · unfold X7_image
    rw [rM0, rM1, p1, ob_some, jlet_d, hI2]
  · refine GG.mono (B := B) ⟨?_, fun s hs => ?_, ?_, ?_, ?_⟩ (by omega)
    · rw [e3 165 (by omega) (by omega) (by omega) (by omega)]
      exact h.1.congr (fun r a b => e3 r (by omega) (by omega) (by omega) (by omega)) (fun _ _ => rfl)
    · exact (h.2.1 s hs).congr (fun k _ => by rw [e3 _ (by omega) (by omega) (by omega) (by omega)]) (by rw [e3 _ (by omega) (by omega) (by omega) (by omega)]) (by rw [e3 _ (by omega) (by omega) (by omega) (by omega)]) (fun _ _ => ⟨rfl, rfl⟩)
    · obtain ⟨n, a, b, c, d⟩ := h.2.2.1
      refine ⟨n, a, by rw [e3 140 (by omega) (by omega) (by omega) (by omega)]; exact b, ?_, fun i hi => by rw [e3 141 (by omega) (by omega) (by omega) (by omega), e3 169 (by omega) (by omega) (by omega) (by omega)]; exact d i hi⟩
      rw [hI2, jup_nj _ _ (by omega), jrow_ne _ _ (by omega), e1 _ (by omega) (by omega)]; exact c
    · refine Or.inr ⟨?_, ?_, cnt, mode, T, S, ?_⟩
      · rw [e2 1 (by omega) (by omega), jup_q, ju1_eq]
      · rw [hI2, jup_q, ju1_eq]
      · refine t2.congr (fun r a b => by rw [e2 r (by omega) (by omega), jup_ne _ _ (by omega)]) (fun i hi => ?_)
        rw [hI2, jup_ne _ _ (by omega), jrow_self, p2 i hi, e1 165 (by omega) (by omega)]
    · intro e he
      rw [e3 146 (by omega) (by omega) (by omega) (by omega), e3 168 (by omega) (by omega) (by omega) (by omega)]
      exact h.2.2.2.2 e he
theorem t_back (h : GG B cnt mode T S I L) : Two B L (X6_back 1) (X7_back 164) I := by
  rcases h.2.2.2.1 with ⟨a, b⟩ | ⟨a, b, c, mode', T', S', hS⟩
  · exact Two.ref h 3 (by omega) (-55) rx3 (by unfold X6_back; rw [a, if_pos rfl]; exact jb2_id _) (fun J hJ => by unfold X7_back; rw [hJ 164 (by omega), b, if_pos rfl]; exact jb2_id _)
  · obtain ⟨I1, t1, t2, t3⟩ := takeS OB2 OB94 (by omega) hS
    have hc4 := hS.1.1
    obtain ⟨I2, f1, f2, f3⟩ := forget_e (c := c) I1 t2.2.1.1
    obtain ⟨x, p1, p2, p3⟩ := pours_e (a := 166) (b := 165) (by omega) I2
    have e1 : ∀ r, (r < 2 ∨ 48 ≤ r) → (r < 148 ∨ 164 ≤ r) → I2 r = I r := fun r a b => by rw [f2 r b, t3 r (by omega)]
    obtain ⟨y, q1, q2⟩ := backM_key (c := nI c) 8 1000 0 (jrow I2 165 x) (by rw [jrow_self, p2 _ (by omega), e1 _ (by omega) (by omega)]; exact hS.2.1.2.1) (by omega) (by omega)
    have hy : ∀ t, t < 8 → y t = bkR (I 170 t) (nI c) := fun t ht => by rw [q2 t, if_pos (by omega), jrow_ne _ _ (by omega), e1 _ (by omega) (by omega)]
    obtain ⟨I3, hI3⟩ : ∃ I3, I3 = jrow (jrow I2 165 x) 170 y := ⟨_, rfl⟩
    have e3 : ∀ r, r ≠ 165 → r ≠ 170 → I3 r = I2 r := fun r a b => by rw [hI3, jrow_ne _ _ b, jrow_ne _ _ a]
    refine ⟨1, I2, I3, ?_, ?_, c, mode', T', S', ?_⟩
    · unfold X6_back
      rw [a, if_neg (by decide), rR.1, rR.2.2, t1, ob_some, f1, ob_some]
    · unfold X7_back
      rw [e1 164 (by omega) (by omega), b, if_neg (by decide), rM0, rM1, p1, ob_some, hI3]
      exact q1
    · refine (h.mono (B' := B + 32768) (by omega)).shelf ?_ (Nat.le_refl _) (fun r k hr => ?_) (fun t ht => ?_)
      · refine (t2.mono (by omega)).congr (fun r a b => by rw [e3 r (by omega) (by omega), f2 r (by omega)]) (fun i hi => ?_)
        rw [hI3, jrow_ne _ _ (by omega), jrow_self, p2 i hi, e1 166 (by omega) (by omega)]
      · rw [e3 r (by omega) (by omega), e1 r (by omega) (by omega)]
      · have e170 : I3 170 = y := by rw [hI3, jrow_self]
        unfold SHF
        rw [e170, hy t ht, e3 _ (by omega) (by omega), e3 171 (by omega) (by omega), e1 171 (by omega) (by omega)]
        unfold bkR
        obtain ⟨f4, f5⟩ := f3 t ht
        rw [t3 (148 + 2 * t) (by omega)] at f4 f5
        rcases h.2.1 t ht with ⟨a1, a2, a3, a4⟩ | ⟨l, b1, b2, b3, b4, b5, b6⟩ | ⟨k, n, a1, a2, a3, a4, a5, a6, a7, a8⟩
        · rw [f4 (by rw [a2]; exact le_m1 (by omega)), a4, if_pos (by decide)]
          exact Or.inl ⟨a1, a2, a3, rfl⟩
        · obtain ⟨l', rfl⟩ : ∃ l', l = l' + 1 := ⟨l - 1, by omega⟩
          have := h.1.1.1
          rw [b6, if_neg (lnle9 (by omega) (by omega)), m11_e]
          by_cases hl : l' + 1 ≤ c
          · rw [f4 (by rw [b4]; exact nI_le (by omega) (by omega)), if_neg (nI_ge (by omega) (by omega))]
            exact Or.inr (Or.inl ⟨l' + 1, b1, hl, b3, b4, b5, rfl⟩)
          · obtain ⟨z1, z2, z3⟩ := f5 (by rw [b4]; exact nI_ge (by omega) (by omega))
            rw [if_pos (nI_le (by omega) (by omega))]
            exact Or.inl ⟨z1, z2, z3, rfl⟩
        · rw [f4 (by rw [a4]; exact le_m1 (by omega)), a6, if_pos (show nI k ≤ (9 : Int32) from nI_le (b := 9) (by omega) (by omega))]
          exact Or.inr (Or.inr ⟨k, n, a1, a2, a3, a4, a5, rfl, a7, a8⟩)
end SETS
