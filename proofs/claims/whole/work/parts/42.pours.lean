/-! A ROW that is poured into another -/
theorem pours_key {a b : Nat} (hab : a ≠ b) : ∀ d n k (I : jI), k + d = 784 → d < n → (∀ j, j < k → I b j = I a j) →
    ∃ x : Mn, jfx (X7_pours_F1 a b) (fun _ _ => none) n (nI k) I = some (jrow I b x) ∧ (∀ j, j < 784 → x j = I a j) ∧ (∀ j, 784 ≤ j → x j = I b j) := by
  intro d
  induction d with
  | zero =>
    intro n k I h1 h2 h3
    obtain ⟨n, rfl⟩ : ∃ q, n = q + 1 := ⟨n - 1, by omega⟩
    refine ⟨I b, ?_, fun j hj => h3 j (by omega), fun _ _ => rfl⟩
    rw [jfx_s, X7_pours_F1, if_pos (lle (784 : Int32) 784 rfl (by omega) (by omega)), jrow_id]
  | succ d ih =>
    intro n k I h1 h2 h3
    obtain ⟨n, rfl⟩ : ∃ q, n = q + 1 := ⟨n - 1, by omega⟩
    obtain ⟨x, e1, e2, e3⟩ := ih n (k + 1) (jup I b k (I a k)) (by omega) (by omega) (fun j hj => by
      rw [jup_ne _ _ hab, jup_q]
      by_cases e : j = k
      · subst e; rw [ju1_eq]
      · rw [ju1_ne _ _ e]; exact h3 j (by omega))
    refine ⟨x, ?_, fun j hj => by rw [e2 j hj, jup_ne _ _ hab], fun j hj => by rw [e3 j hj, jup_q, ju1_ne _ _ (by omega)]⟩
    rw [jfx_s, X7_pours_F1, if_neg (lge (784 : Int32) 784 rfl (by omega) (by omega)), if_pos (jin_N (by omega) (by omega)), if_pos (jin_N (by omega) (by omega)), jlet_d, cl_N (by omega), show nI k + (1 : Int32) = nI (k + 1) from nI_1 k]
    rw [e1, jup_def, jrow_jrow]
theorem pours_e {a b : Nat} (hab : a ≠ b) (I : jI) : ∃ x : Mn, X7_pours a b I = some (jrow I b x) ∧ (∀ j, j < 784 → x j = I a j) ∧ (∀ j, 784 ≤ j → x j = I b j) := by
  obtain ⟨x, e1, e2⟩ := pours_key hab 784 1000 0 I (by omega) (by omega) (fun j hj => by omega)
  exact ⟨x, e1, e2⟩
