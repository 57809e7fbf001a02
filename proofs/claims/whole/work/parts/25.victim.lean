/-! VICTIMS -/
def vbest (P : Nat → Bool) (lt : Nat → Nat → Bool) : Nat → Nat → Option Nat → Option Nat
  | 0, _, b => b
  | d + 1, i, b => vbest P lt d (i + 1) (if P i = true then (match b with
    | none => some i
    | some j => if lt i j = true then some i else some j) else b)
theorem vbest_in {P : Nat → Bool} {lt : Nat → Nat → Bool} : ∀ {d i : Nat} {b : Option Nat}, (∀ j, b = some j → j < i ∧ P j = true) → ∀ k, vbest P lt d i b = some k → k < i + d ∧ P k = true
  | 0, i, b, h, k, hk => h k hk
  | d + 1, i, b, h, k, hk => by
    unfold vbest at hk
    have := vbest_in (P := P) (lt := lt) (d := d) (i := i + 1) (fun j hj => ?_) k hk
    · exact ⟨by omega, this.2⟩
    · split at hj
      · next hp =>
        cases b with
        | none => cases hj; exact ⟨by omega, hp⟩
        | some j2 =>
          simp only at hj
          split at hj
          · cases hj; exact ⟨by omega, hp⟩
          · cases hj; have := h j rfl; exact ⟨by omega, this.2⟩
      · have := h j hj; exact ⟨by omega, this.2⟩
theorem vbest_ne {P : Nat → Bool} {lt : Nat → Nat → Bool} : ∀ {d i : Nat} {b : Option Nat}, (b ≠ none ∨ ∃ k, i ≤ k ∧ k < i + d ∧ P k = true) → vbest P lt d i b ≠ none
  | 0, i, b, h => by
    rcases h with h | ⟨k, h1, h2, -⟩
    · exact h
    · omega
  | d + 1, i, b, h => by
    unfold vbest
    apply vbest_ne
    rcases h with h | ⟨k, h1, h2, h3⟩
    · left
      split
      · cases b with
        | none => simp
        | some j => simp only; split <;> simp
      · exact h
    · by_cases e : k = i
      · subst e
        left
        rw [if_pos h3]
        cases b with
        | none => simp
        | some j => simp only; split <;> simp
      · exact Or.inr ⟨k, by omega, by omega, h3⟩
def vlt (m : Mn) (l c i j : Nat) : Bool :=
  if c = 3 then decide (m (140 + 140 * l + 7 * i + 3) < m (140 + 140 * l + 7 * j + 3))
  else if c = 4 then decide (m (140 + 140 * l + 7 * i + 4) < m (140 + 140 * l + 7 * j + 4))
  else if c = 5 then decide (m (140 + 140 * l + 7 * j + 4) < m (140 + 140 * l + 7 * i + 4))
  else decide (m (140 + 140 * l + 7 * i + 5) < m (140 + 140 * l + 7 * j + 5) ∨ (m (140 + 140 * l + 7 * i + 5) = m (140 + 140 * l + 7 * j + 5) ∧ m (140 + 140 * l + 7 * i + 4) < m (140 + 140 * l + 7 * j + 4)))
abbrev vP (m : Mn) (l : Nat) : Nat → Bool := fun k => !decide (m (140 + 140 * l + 7 * k) = -1)
section VICT
variable {B b : Nat} {I : jI} {m : Mn} {l s : Nat}
theorem LR.notes (h : LR B b I m l s) {k : Nat} (hk : k < 16) (hn : ¬ m (140 + 140 * l + 7 * k) = -1) : (∃ x, x ≤ B ∧ I (b + 4) k = nI x ∧ m (140 + 140 * l + 7 * k + 3) = nI x) ∧ (∃ x, x ≤ B ∧ I (b + 5) k = nI x ∧ m (140 + 140 * l + 7 * k + 4) = nI x) ∧ (∃ x, x ≤ B ∧ I (b + 6) k = nI x ∧ m (140 + 140 * l + 7 * k + 5) = nI x) ∧ (I (b + 7) k = m (140 + 140 * l + 7 * k + 6) ∧ (m (140 + 140 * l + 7 * k + 6) = 0 ∨ m (140 + 140 * l + 7 * k + 6) = 1)) := by
  rcases (h.2.1 k hk).2 with ⟨h1, -⟩ | ⟨q, -, -, -, -, -, -, h2⟩
  · exact absurd h1 hn
  · exact h2
theorem LR.goesAhead (h : LR B b I m l s) (hb : LB b) (hB : B < 1073741824) {c i j : Nat} (hc : I b 2 = nI c) (hc8 : 3 ≤ c ∧ c ≤ 8) (hi : i < 16) (hj : j < 16) (hni : ¬ m (140 + 140 * l + 7 * i) = -1) (hnj : ¬ m (140 + 140 * l + 7 * j) = -1) : X2_goesAhead b (nI i) (nI j) I = some (if vlt m l c i j = true then 1 else 0) := by
  obtain ⟨h0, h1, h2, h3, h4, h5, h6, h7, h8⟩ := hb
  obtain ⟨⟨x1, q1, e1, f1⟩, ⟨x2, q2, e2, f2⟩, ⟨x3, q3, e3, f3⟩, -⟩ := h.notes hi hni
  obtain ⟨⟨y1, r1, g1, k1⟩, ⟨y2, r2, g2, k2⟩, ⟨y3, r3, g3, k3⟩, -⟩ := h.notes hj hnj
  unfold X2_goesAhead vlt
  rw [if_neg (nI_pos (by omega)), if_neg (lge (16 : Int32) 16 rfl hi (by omega)), if_neg (nI_pos (by omega)), if_pos (llt (16 : Int32) 16 rfl hj (by omega)), hc]
  simp only [if_pos (jin_N hi (show 16 < 2147483648 by omega)), if_pos (jin_N hj (show 16 < 2147483648 by omega)), h4, h5, h6, cl_N (show i < 2147483648 by omega), cl_N (show j < 2147483648 by omega), e1, e2, e3, f1, f2, f3, g1, g2, g3, k1, k2, k3, jlet_d]
  rcases (show c = 3 ∨ c = 4 ∨ c = 5 ∨ 6 ≤ c by omega) with rfl | rfl | rfl | h6
  · simp (disch := omega) only [if_pos (show nI 3 = (3 : Int32) from rfl), nle_N, nlt_N, if_true]
    by_cases hh : y1 ≤ x1
    · rw [if_pos hh, if_neg (by simp; omega)]
    · rw [if_neg hh, if_pos (by simp; omega)]
  · simp (disch := omega) only [if_neg (show ¬ nI 4 = (3 : Int32) by decide), if_pos (show nI 4 = (4 : Int32) from rfl), nle_N, nlt_N, if_true, if_neg (show ¬ (4 : Nat) = 3 by omega)]
    by_cases hh : y2 ≤ x2
    · rw [if_pos hh, if_neg (by simp; omega)]
    · rw [if_neg hh, if_pos (by simp; omega)]
  · simp (disch := omega) only [if_neg (show ¬ nI 5 = (3 : Int32) by decide), if_neg (show ¬ nI 5 = (4 : Int32) by decide), if_pos (show nI 5 = (5 : Int32) from rfl), nle_N, nlt_N, if_true, if_neg (show ¬ (5 : Nat) = 3 by omega), if_neg (show ¬ (5 : Nat) = 4 by omega)]
    by_cases hh : x2 ≤ y2
    · rw [if_pos hh, if_neg (by simp; omega)]
    · rw [if_neg hh, if_pos (by simp; omega)]
  · have n3 : ¬ nI c = (3 : Int32) := fun e => by have := (nI_eq (a := c) (b := 3) (by omega) (by omega)).mp e; omega
    have n4 : ¬ nI c = (4 : Int32) := fun e => by have := (nI_eq (a := c) (b := 4) (by omega) (by omega)).mp e; omega
    have n5 : ¬ nI c = (5 : Int32) := fun e => by have := (nI_eq (a := c) (b := 5) (by omega) (by omega)).mp e; omega
    simp (disch := omega) only [if_neg n3, if_neg n4, if_neg n5, if_neg (show ¬ c = 3 by omega), if_neg (show ¬ c = 4 by omega), if_neg (show ¬ c = 5 by omega), nle_N, nlt_N, neq_N]
    by_cases hh : x3 < y3
    · rw [if_pos hh, if_pos (by simp; omega)]
    · rw [if_neg hh]
      by_cases h9 : x3 = y3
      · rw [if_pos h9]
        by_cases h10 : y2 ≤ x2
        · rw [if_pos h10, if_neg (by simp; omega)]
        · rw [if_neg h10, if_pos (by simp; omega)]
      · rw [if_neg h9, if_neg (by simp; omega)]
theorem LR.noted (h : LR B b I m l s) (hb : LB b) (hB : B < 1073741824) {c : Nat} (hc : I b 2 = nI c) (hc8 : 3 ≤ c ∧ c ≤ 8) : X2_notedVictim b I = some (oI (vbest (vP m l) (vlt m l c) s 0 none)) := by
  have hs := h.1.1
  have hI0 := h.1.2.1.1
  have key : ∀ d n i bo, i + d = s → d < n → (∀ j, bo = some j → j < i ∧ vP m l j = true) → jfx (X2_notedVictim_F1 b I) (fun _ _ => none) n (oI bo) (nI i) = some (oI (vbest (vP m l) (vlt m l c) d i bo)) := by
    intro d
    induction d with
    | zero =>
      intro n i bo h1 h2 h3
      obtain ⟨n, rfl⟩ : ∃ q, n = q + 1 := ⟨n - 1, by omega⟩
      rw [jfx_s, X2_notedVictim_F1, hI0, if_pos (nI_le (by omega) (by omega))]
      rfl
    | succ d ih =>
      intro n i bo h1 h2 h3
      obtain ⟨n, rfl⟩ : ∃ q, n = q + 1 := ⟨n - 1, by omega⟩
      rw [jfx_s, X2_notedVictim_F1, hI0, if_neg (nI_ge (by omega) (by omega)), pageIn_e hb (by omega), ob_some, (h.2.1 i (by omega)).1]
      simp only [jlet_d, show nI i + (1 : Int32) = nI (i + 1) from nI_1 i]
      unfold vbest
      by_cases hp : m (140 + 140 * l + 7 * i) = -1
      · rw [if_pos hp, if_neg (by simp [vP, hp])]
        exact ih n (i + 1) bo (by omega) (by omega) (fun j hj => ⟨by have := h3 j hj; omega, (h3 j hj).2⟩)
      · rw [if_neg hp, if_pos (show vP m l i = true by simp [vP, hp])]
        cases bo with
        | none =>
          rw [if_pos (show oI none = (-1 : Int32) from rfl)]
          exact ih n (i + 1) (some i) (by omega) (by omega) (fun j hj => by cases hj; exact ⟨by omega, by simp [vP, hp]⟩)
        | some j =>
          obtain ⟨hj1, hj2⟩ := h3 j rfl
          have hj3 : ¬ m (140 + 140 * l + 7 * j) = -1 := by simpa [vP] using hj2
          rw [if_neg (show ¬ oI (some j) = (-1 : Int32) from m1_ne (by omega))]
          show (X2_goesAhead b (nI i) (nI j) I).bind _ = _
          rw [h.goesAhead hb hB hc hc8 (by omega) (by omega) hp hj3, ob_some]
          by_cases hv : vlt m l c i j = true
          · simp only [if_pos hv]
            rw [if_neg (by decide)]
            exact ih n (i + 1) (some i) (by omega) (by omega) (fun j hj => by cases hj; exact ⟨by omega, by simp [vP, hp]⟩)
          · simp only [if_neg hv]
            rw [if_pos (by decide)]
            exact ih n (i + 1) (some j) (by omega) (by omega) (fun j hj => by cases hj; exact ⟨by omega, hj2⟩)
  exact key s 1000 0 none (by omega) (by omega) (fun j hj => by cases hj)
theorem LR.notedM (h : LR B b I m l s) (hl : l < 4) (hB : B < 1073741824) {c : Nat} (hc : m (130 + 140 * l) = nI c) (hc8 : 3 ≤ c ∧ c ≤ 8) {J : jI} (hJ : J 165 = m) : X7_noted 164 (nI l) J = some (oI (vbest (vP m l) (vlt m l c) s 0 none)) := by
  have hs := h.1.1
  have hm0 := h.1.2.1.2
  have key : ∀ d n i bo, i + d = s → d < n → (∀ j, bo = some j → j < i ∧ vP m l j = true) → jfx (X7_noted_F1 164 (nI l) J (nI c)) (fun _ _ => none) n (oI bo) (nI i) = some (oI (vbest (vP m l) (vlt m l c) d i bo)) := by
    intro d
    induction d with
    | zero =>
      intro n i bo h1 h2 h3
      obtain ⟨n, rfl⟩ : ∃ q, n = q + 1 := ⟨n - 1, by omega⟩
      rw [jfx_s, X7_noted_F1, of_e 0 l 0 rfl (by omega) J, ob_some, hJ, Nat.add_zero, hm0, if_pos (nI_le (by omega) (by omega))]
      rfl
    | succ d ih =>
      intro n i bo h1 h2 h3
      obtain ⟨n, rfl⟩ : ∃ q, n = q + 1 := ⟨n - 1, by omega⟩
      rw [jfx_s, X7_noted_F1, of_e 0 l 0 rfl (by omega) J, ob_some, hJ, Nat.add_zero, hm0, if_neg (nI_ge (by omega) (by omega)), note_e 0 l i 0 rfl (by omega) J, ob_some, hJ, Nat.add_zero]
      simp only [jlet_d, show nI i + (1 : Int32) = nI (i + 1) from nI_1 i]
      unfold vbest
      by_cases hp : m (140 + 140 * l + 7 * i) = -1
      · rw [hp, if_pos (by decide), if_neg (by simp [vP, hp])]
        exact ih n (i + 1) bo (by omega) (by omega) (fun j hj => ⟨by have := h3 j hj; omega, (h3 j hj).2⟩)
      · obtain ⟨p, p1, p2, -⟩ := h.page (show i < 16 by omega) hp
        rw [p2, if_neg (nI_pos (by omega)), if_pos (show vP m l i = true by simp [vP, hp])]
        cases bo with
        | none =>
          have e1 : ¬ (0 : Int32) ≤ oI none := by decide
          simp only [if_neg e1, if_neg (show ¬ (1 : Int32) = 0 by decide)]
          exact ih n (i + 1) (some i) (by omega) (by omega) (fun j hj => by cases hj; exact ⟨by omega, by simp [vP, hp]⟩)
        | some j =>
          obtain ⟨hj1, hj2⟩ := h3 j rfl
          have hj3 : ¬ m (140 + 140 * l + 7 * j) = -1 := by simpa [vP] using hj2
          obtain ⟨⟨x1, q1, -, f1⟩, ⟨x2, q2, -, f2⟩, ⟨x3, q3, -, f3⟩, -⟩ := h.notes (show i < 16 by omega) hp
          obtain ⟨⟨y1, r1, -, k1⟩, ⟨y2, r2, -, k2⟩, ⟨y3, r3, -, k3⟩, -⟩ := h.notes (show j < 16 by omega) hj3
          have e1 : (0 : Int32) ≤ oI (some j) := nI_pos' (by omega)
          have ho : oI (some j) = nI j := rfl
          have i1 := ih n (i + 1) (some i) (by omega) (by omega) (fun j hj => by cases hj; exact ⟨by omega, by simp [vP, hp]⟩)
          have i2 := ih n (i + 1) (some j) (by omega) (by omega) (fun j hj => by cases hj; exact ⟨by omega, hj2⟩)
          rw [ho] at i2 e1
          rw [show oI (some i) = nI i from rfl] at i1
          rw [ho]
          simp only [if_pos e1, note_e 3 l i 3 rfl (show 140 + 140 * l + 7 * i + 3 < 784 by omega) J, note_e 4 l i 4 rfl (show 140 + 140 * l + 7 * i + 4 < 784 by omega) J, note_e 5 l i 5 rfl (show 140 + 140 * l + 7 * i + 5 < 784 by omega) J, note_e 3 l j 3 rfl (show 140 + 140 * l + 7 * j + 3 < 784 by omega) J, note_e 4 l j 4 rfl (show 140 + 140 * l + 7 * j + 4 < 784 by omega) J, note_e 5 l j 5 rfl (show 140 + 140 * l + 7 * j + 5 < 784 by omega) J, ob_some, hJ, f1, f2, f3, k1, k2, k3]
          unfold vlt
          simp only [f1, f2, f3, k1, k2, k3]
          rcases (show c = 3 ∨ c = 4 ∨ c = 5 ∨ 6 ≤ c by omega) with rfl | rfl | rfl | h6
          · simp (disch := omega) only [if_pos (show nI 3 = (3 : Int32) from rfl), nle_N, nlt_N, if_true]
            by_cases hh : y1 ≤ x1
            · simp only [if_pos hh, if_true]
              rw [if_neg (by simp; omega)]; exact i2
            · simp only [if_neg hh, if_neg (show ¬ (1 : Int32) = 0 by decide)]
              rw [if_pos (by simp; omega)]; exact i1
          · simp (disch := omega) only [if_neg (show ¬ nI 4 = (3 : Int32) by decide), if_pos (show nI 4 = (4 : Int32) from rfl), nle_N, nlt_N, if_true, if_neg (show ¬ (4 : Nat) = 3 by omega)]
            by_cases hh : y2 ≤ x2
            · simp only [if_pos hh, if_true]
              rw [if_neg (by simp; omega)]; exact i2
            · simp only [if_neg hh, if_neg (show ¬ (1 : Int32) = 0 by decide)]
              rw [if_pos (by simp; omega)]; exact i1
          · simp (disch := omega) only [if_neg (show ¬ nI 5 = (3 : Int32) by decide), if_neg (show ¬ nI 5 = (4 : Int32) by decide), if_pos (show nI 5 = (5 : Int32) from rfl), nle_N, nlt_N, if_true, if_neg (show ¬ (5 : Nat) = 3 by omega), if_neg (show ¬ (5 : Nat) = 4 by omega)]
            by_cases hh : x2 ≤ y2
            · simp only [if_pos hh, if_true]
              rw [if_neg (by simp; omega)]; exact i2
            · simp only [if_neg hh, if_neg (show ¬ (1 : Int32) = 0 by decide)]
              rw [if_pos (by simp; omega)]; exact i1
          · have n3 : ¬ nI c = (3 : Int32) := fun e => by have := (nI_eq (a := c) (b := 3) (by omega) (by omega)).mp e; omega
            have n4 : ¬ nI c = (4 : Int32) := fun e => by have := (nI_eq (a := c) (b := 4) (by omega) (by omega)).mp e; omega
            have n5 : ¬ nI c = (5 : Int32) := fun e => by have := (nI_eq (a := c) (b := 5) (by omega) (by omega)).mp e; omega
            have ev : vlt m l c = (fun i j => decide (m (140 + 140 * l + 7 * i + 5) < m (140 + 140 * l + 7 * j + 5) ∨ (m (140 + 140 * l + 7 * i + 5) = m (140 + 140 * l + 7 * j + 5) ∧ m (140 + 140 * l + 7 * i + 4) < m (140 + 140 * l + 7 * j + 4)))) := by
              funext i j; unfold vlt; rw [if_neg (show ¬ c = 3 by omega), if_neg (show ¬ c = 4 by omega), if_neg (show ¬ c = 5 by omega)]
            rw [ev] at i1 i2
            simp (disch := omega) only [if_neg n3, if_neg n4, if_neg n5, if_true, if_neg (show ¬ c = 3 by omega), if_neg (show ¬ c = 4 by omega), if_neg (show ¬ c = 5 by omega), nle_N, nlt_N, neq_N]
            by_cases hh : x3 < y3
            · have e9 : nI x3 - nI y3 < 0 := pk_sneg (by omega) hh
              simp only [if_pos e9, if_neg (show ¬ (1 : Int32) = 0 by decide)]
              rw [if_pos (by simp; omega)]; exact i1
            · have e9 : nI x3 - nI y3 = nI (x3 - y3) := pk_sub (by omega)
              rw [e9]
              simp only [if_neg (nI_pos (show x3 - y3 < 2 ^ 31 by omega))]
              by_cases h9 : x3 = y3
              · have e10 : nI (x3 - y3) = 0 := by rw [show x3 - y3 = 0 by omega]; rfl
                simp only [if_pos e10]
                by_cases h10 : y2 ≤ x2
                · simp only [if_pos h10, if_true]
                  rw [if_neg (by simp; omega)]; exact i2
                · simp only [if_neg h10, if_neg (show ¬ (1 : Int32) = 0 by decide)]
                  rw [if_pos (by simp; omega)]; exact i1
              · have e10 : ¬ nI (x3 - y3) = 0 := nI_ne0 (by omega) (by omega)
                simp only [if_neg e10, if_true]
                rw [if_neg (by simp; omega)]; exact i2
  unfold X7_noted
  rw [of_e 2 l 2 rfl (by omega) J, ob_some, hJ, show 128 + 140 * l + 2 = 130 + 140 * l by omega, hc]
  exact key s 1000 0 none (by omega) (by omega) (fun j hj => by cases hj)
end VICT
