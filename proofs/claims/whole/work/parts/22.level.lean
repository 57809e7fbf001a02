/-! A LEVEL of the class (its cells from b on) beside its block of the model's row -/
def occ (m : Mn) (l : Nat) : Nat → Nat
  | 0 => 0
  | n + 1 => occ m l n + (if m (140 + 140 * l + 7 * n) = -1 then 0 else 1)
theorem occ_congr {m m' : Mn} {l : Nat} : ∀ {n : Nat}, (∀ k, k < n → m' (140 + 140 * l + 7 * k) = m (140 + 140 * l + 7 * k)) → occ m' l n = occ m l n
  | 0, _ => rfl
  | n + 1, h => by
    unfold occ
    rw [occ_congr (fun k hk => h k (by omega)), h n (by omega)]
theorem occ_le {m : Mn} {l : Nat} : ∀ {n : Nat}, occ m l n ≤ n
  | 0 => Nat.le_refl _
  | n + 1 => by
    have := occ_le (m := m) (l := l) (n := n)
    unfold occ
    split <;> omega
theorem occ_full {m : Mn} {l : Nat} : ∀ {n : Nat}, (∀ k, k < n → ¬ m (140 + 140 * l + 7 * k) = -1) → occ m l n = n
  | 0, _ => rfl
  | n + 1, h => by
    unfold occ
    rw [occ_full (fun k hk => h k (by omega)), if_neg (h n (by omega))]
theorem occ_not {m : Mn} {l k : Nat} : ∀ {n : Nat}, k < n → m (140 + 140 * l + 7 * k) = -1 → occ m l n < n
  | 0, h, _ => by omega
  | n + 1, h, hk => by
    unfold occ
    by_cases e : k = n
    · subst e
      have := occ_le (m := m) (l := l) (n := k)
      rw [if_pos hk]; omega
    · have := occ_not (n := n) (by omega) hk
      split <;> omega
theorem occ_ext {m : Mn} {l s : Nat} : ∀ {n : Nat}, s ≤ n → (∀ k, s ≤ k → k < n → m (140 + 140 * l + 7 * k) = -1) → occ m l n = occ m l s
  | 0, h, _ => by rw [show s = 0 by omega]
  | n + 1, h, hk => by
    by_cases e : s = n + 1
    · rw [e]
    · unfold occ
      rw [if_pos (hk n (by omega) (by omega)), occ_ext (n := n) (by omega) (fun k a b => hk k a (by omega)), Nat.add_zero]
      cases s <;> rfl
theorem occ_add {m m' : Mn} {l k : Nat} : ∀ {n : Nat}, k < n → m (140 + 140 * l + 7 * k) = -1 → ¬ m' (140 + 140 * l + 7 * k) = -1 → (∀ j, j < n → j ≠ k → m' (140 + 140 * l + 7 * j) = m (140 + 140 * l + 7 * j)) → occ m' l n = occ m l n + 1
  | 0, h, _, _, _ => by omega
  | n + 1, h, h1, h2, h3 => by
    unfold occ
    by_cases e : k = n
    · subst e
      rw [if_pos h1, if_neg h2, occ_congr (fun j hj => h3 j (by omega) (by omega))]
    · rw [occ_add (n := n) (by omega) h1 h2 (fun j a b => h3 j (by omega) b), h3 n (by omega) (by omega)]
      omega
def SLT (B b : Nat) (I : jI) (m : Mn) (l s k : Nat) : Prop :=
  I (b + 1) k = m (140 + 140 * l + 7 * k) ∧
  ((m (140 + 140 * l + 7 * k) = -1 ∧ I (b + 3) k = 0) ∨
   (∃ p, p < 64 ∧ m (140 + 140 * l + 7 * k) = nI p ∧ k < s ∧ I (b + 8) p = nI k ∧ I (b + 2) k = m (140 + 140 * l + 7 * k + 1) ∧
    (I (b + 3) k = m (140 + 140 * l + 7 * k + 2) ∧ (m (140 + 140 * l + 7 * k + 2) = 0 ∨ m (140 + 140 * l + 7 * k + 2) = 1)) ∧
    (∃ x, x ≤ B ∧ I (b + 4) k = nI x ∧ m (140 + 140 * l + 7 * k + 3) = nI x) ∧ (∃ x, x ≤ B ∧ I (b + 5) k = nI x ∧ m (140 + 140 * l + 7 * k + 4) = nI x) ∧ (∃ x, x ≤ B ∧ I (b + 6) k = nI x ∧ m (140 + 140 * l + 7 * k + 5) = nI x) ∧
    (I (b + 7) k = m (140 + 140 * l + 7 * k + 6) ∧ (m (140 + 140 * l + 7 * k + 6) = 0 ∨ m (140 + 140 * l + 7 * k + 6) = 1))))
def IDX (b : Nat) (I : jI) (m : Mn) (l s p : Nat) : Prop := I (b + 8) p = -1 ∨ ∃ k, k < s ∧ I (b + 8) p = nI k ∧ m (140 + 140 * l + 7 * k) = nI p
def LSC (b : Nat) (I : jI) (m : Mn) (l s : Nat) : Prop :=
  (1 ≤ s ∧ s ≤ 16) ∧ (I b 0 = nI s ∧ m (128 + 140 * l) = nI s) ∧ (∃ c, c ≤ 99 ∧ I b 1 = nI c ∧ m (129 + 140 * l) = nI c) ∧ (∃ c, (3 ≤ c ∧ c ≤ 8) ∧ I b 2 = nI c ∧ m (130 + 140 * l) = nI c) ∧
  (∃ h, h < s ∧ I b 3 = nI h ∧ m (131 + 140 * l) = nI h) ∧ I b 4 = m (137 + 140 * l) ∧ I b 5 = m (132 + 140 * l) ∧ I b 6 = m (133 + 140 * l) ∧ I b 7 = m (134 + 140 * l) ∧ I b 8 = m (135 + 140 * l) ∧ I b 9 = m (136 + 140 * l) ∧ I b 10 = nI (occ m l 16)
def LR (B b : Nat) (I : jI) (m : Mn) (l s : Nat) : Prop := LSC b I m l s ∧ (∀ k, k < 16 → SLT B b I m l s k) ∧ ∀ p, p < 64 → IDX b I m l s p
theorem SLT.mono {B B' b : Nat} {I : jI} {m : Mn} {l s k : Nat} (h : SLT B b I m l s k) (hB : B ≤ B') : SLT B' b I m l s k := by
  obtain ⟨h1, h2⟩ := h
  refine ⟨h1, ?_⟩
  rcases h2 with h2 | ⟨p, a1, a2, a3, a4, a5, a6, ⟨x, x1, x2⟩, ⟨y, y1, y2⟩, ⟨z, z1, z2⟩, a7⟩
  · exact Or.inl h2
  · exact Or.inr ⟨p, a1, a2, a3, a4, a5, a6, ⟨x, by omega, x2⟩, ⟨y, by omega, y2⟩, ⟨z, by omega, z2⟩, a7⟩
theorem LR.mono {B B' b : Nat} {I : jI} {m : Mn} {l s : Nat} (h : LR B b I m l s) (hB : B ≤ B') : LR B' b I m l s := ⟨h.1, fun k hk => (h.2.1 k hk).mono hB, h.2.2⟩
theorem LR.congr {B b : Nat} {I I' : jI} {m m' : Mn} {l s : Nat} (h : LR B b I m l s) (hI : ∀ r, b ≤ r → r < b + 9 → I' r = I r) (hm : ∀ i, 128 + 140 * l ≤ i → i < 268 + 140 * l → m' i = m i) : LR B b I' m' l s := by
  have e0 := hI b (by omega) (by omega)
  have e1 := hI (b + 1) (by omega) (by omega)
  have e2 := hI (b + 2) (by omega) (by omega)
  have e3 := hI (b + 3) (by omega) (by omega)
  have e4 := hI (b + 4) (by omega) (by omega)
  have e5 := hI (b + 5) (by omega) (by omega)
  have e6 := hI (b + 6) (by omega) (by omega)
  have e7 := hI (b + 7) (by omega) (by omega)
  have e8 := hI (b + 8) (by omega) (by omega)
  obtain ⟨h1, h2, h3⟩ := h
  refine ⟨?_, fun k hk => ?_, fun p hp => ?_⟩
  · unfold LSC at h1 ⊢
    rw [e0, occ_congr (m := m) (fun k hk => hm _ (by omega) (by omega)), hm (128 + 140 * l) (by omega) (by omega), hm (129 + 140 * l) (by omega) (by omega), hm (130 + 140 * l) (by omega) (by omega), hm (131 + 140 * l) (by omega) (by omega), hm (132 + 140 * l) (by omega) (by omega), hm (133 + 140 * l) (by omega) (by omega), hm (134 + 140 * l) (by omega) (by omega), hm (135 + 140 * l) (by omega) (by omega), hm (136 + 140 * l) (by omega) (by omega), hm (137 + 140 * l) (by omega) (by omega)]
    exact h1
  · have := h2 k hk
    unfold SLT at this ⊢
    rw [e1, e2, e3, e4, e5, e6, e7, e8, hm (140 + 140 * l + 7 * k) (by omega) (by omega), hm (140 + 140 * l + 7 * k + 1) (by omega) (by omega), hm (140 + 140 * l + 7 * k + 2) (by omega) (by omega), hm (140 + 140 * l + 7 * k + 3) (by omega) (by omega), hm (140 + 140 * l + 7 * k + 4) (by omega) (by omega), hm (140 + 140 * l + 7 * k + 5) (by omega) (by omega), hm (140 + 140 * l + 7 * k + 6) (by omega) (by omega)]
    exact this
  · rcases h3 p hp with h | ⟨k, k1, k2, k3⟩
    · exact Or.inl (by rw [e8]; exact h)
    · have hs := h1.1
      exact Or.inr ⟨k, k1, by rw [e8]; exact k2, by rw [hm _ (by omega) (by omega)]; exact k3⟩
section LRF
variable {B b : Nat} {I : jI} {m : Mn} {l s : Nat}
theorem LR.slot (h : LR B b I m l s) {k p : Nat} (hk : k < 16) (hp : m (140 + 140 * l + 7 * k) = nI p) (hp2 : p < 64) : k < s ∧ I (b + 8) p = nI k ∧ I (b + 2) k = m (140 + 140 * l + 7 * k + 1) ∧ (I (b + 3) k = m (140 + 140 * l + 7 * k + 2) ∧ (m (140 + 140 * l + 7 * k + 2) = 0 ∨ m (140 + 140 * l + 7 * k + 2) = 1)) := by
  rcases (h.2.1 k hk).2 with ⟨h1, -⟩ | ⟨q, a1, a2, a3, a4, a5, a6, -⟩
  · rw [hp] at h1; exact absurd h1 (m1_ne (by omega))
  · rw [hp] at a2
    have e := (nI_eq (by omega) (by omega)).mp a2
    subst e
    exact ⟨a3, a4, a5, a6⟩
theorem LR.page (h : LR B b I m l s) {k : Nat} (hk : k < 16) (hn : ¬ m (140 + 140 * l + 7 * k) = -1) : ∃ p, p < 64 ∧ m (140 + 140 * l + 7 * k) = nI p ∧ k < s := by
  rcases (h.2.1 k hk).2 with ⟨h1, -⟩ | ⟨q, a1, a2, a3, -⟩
  · exact absurd h1 hn
  · exact ⟨q, a1, a2, a3⟩
theorem LR.ixp (h : LR B b I m l s) {p : Nat} (hp : p < 64) : I (b + 8) p = oI (fnd m l s (nI p)) := by
  have hs := h.1.1
  rcases h.2.2 p hp with e | ⟨k, k1, k2, k3⟩
  · rw [e]
    unfold fnd
    rw [ffr_no (fun j _ hj => ?_)]
    · rfl
    · simp only [decide_eq_false_iff_not]
      intro hj2
      have := (h.slot (k := j) (by omega) hj2 hp).2.1
      rw [e] at this
      exact m1_ne (by omega) this.symm
  · rw [k2]
    unfold fnd
    rw [ffr_of (k := k) (by omega) (by omega) (by simpa using k3) (fun j _ hj => ?_)]
    · rfl
    · simp only [decide_eq_false_iff_not]
      intro hj2
      have := (h.slot (k := j) (by omega) hj2 hp).2.1
      rw [k2] at this
      have := (nI_eq (by omega) (by omega)).mp this
      omega
theorem LR.slotOf (h : LR B b I m l s) (hb : LB b) {p : Nat} (hp : p < 64) : X2_slotOf b (nI p) I = some (oI (fnd m l s (nI p))) := by
  rw [slotOf_r hb hp, h.ixp hp]
theorem fnd_some {m : Mn} {l s k : Nat} {p : Int32} (h : fnd m l s p = some k) : k < s ∧ m (140 + 140 * l + 7 * k) = p ∧ ∀ j, j < k → ¬ m (140 + 140 * l + 7 * j) = p := by
  obtain ⟨-, a, c, e⟩ := ffr_some h
  refine ⟨by omega, by simpa using c, fun j hj => ?_⟩
  simpa using e j (by omega) hj
theorem fnd_none {m : Mn} {l s : Nat} {p : Int32} (h : fnd m l s p = none) : ∀ j, j < s → ¬ m (140 + 140 * l + 7 * j) = p := by
  intro j hj
  simpa using ffr_none h j (by omega) (by omega)
theorem LR.freeSlot (h : LR B b I m l s) (hb : LB b) : X2_freeSlot b I = some (oI (fnd m l s (-1))) := by
  have hs := h.1.1
  have hI0 := h.1.2.1.1
  have hI10 := h.1.2.2.2.2.2.2.2.2.2.2.2
  have hoc : occ m l 16 = occ m l s := occ_ext (by omega) (fun k h1 h2 => by
    rcases (h.2.1 k h2).2 with ⟨h3, -⟩ | ⟨q, -, -, a3, -⟩
    · exact h3
    · omega)
  have hle := occ_le (m := m) (l := l) (n := s)
  unfold X2_freeSlot
  by_cases hf : occ m l s = s
  · have hn : fnd m l s (-1) = none := ffr_no (fun j _ hj => by
      simp only [decide_eq_false_iff_not]
      intro hj2
      have := occ_not (n := s) (by omega) hj2
      omega)
    rw [hn, show (1000 : Nat) = 999 + 1 from rfl, jfx_s, X2_freeSlot_F1, hI0, hI10, if_pos (nI_le (by omega) (by omega))]
    rfl
  · have key : ∀ d n i, i + d = s → d < n → jfx (X2_freeSlot_F1 b I) (fun _ => none) n (nI i) = some (oI (ffr (fun k => decide (m (140 + 140 * l + 7 * k) = -1)) d i)) := by
      intro d
      induction d with
      | zero =>
        intro n i h1 h2
        obtain ⟨n, rfl⟩ : ∃ q, n = q + 1 := ⟨n - 1, by omega⟩
        rw [jfx_s, X2_freeSlot_F1, hI0, hI10, if_neg (nI_ge (by omega) (by omega)), if_pos (nI_le (by omega) (by omega))]
        rfl
      | succ d ih =>
        intro n i h1 h2
        obtain ⟨n, rfl⟩ : ∃ q, n = q + 1 := ⟨n - 1, by omega⟩
        rw [jfx_s, X2_freeSlot_F1, hI0, hI10, if_neg (nI_ge (by omega) (by omega)), if_neg (nI_ge (by omega) (by omega)), if_neg (lge (16 : Int32) 16 rfl (by omega) (by omega)), if_pos (jin_N (by omega) (by omega)), hb.2.1, cl_N (by omega), (h.2.1 i (by omega)).1]
        unfold ffr
        by_cases hp : m (140 + 140 * l + 7 * i) = -1
        · rw [if_pos hp, if_pos (by simpa using hp)]
          rfl
        · rw [if_neg hp, if_neg (by simpa using hp), show nI i + (1 : Int32) = nI (i + 1) from nI_1 i]
          exact ih n (i + 1) (by omega) (by omega)
    exact key s 1000 0 (by omega) (by omega)
end LRF
