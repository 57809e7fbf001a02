/-! THE PURE PART: small facts -/
def oI : Option Nat → Int32
  | some k => nI k
  | none => -1
/-- the first from i on, of d places -/
def ffr (P : Nat → Bool) : Nat → Nat → Option Nat
  | 0, _ => none
  | d + 1, i => if P i = true then some i else ffr P d (i + 1)
theorem ffr_some {P : Nat → Bool} : ∀ {d i k : Nat}, ffr P d i = some k → i ≤ k ∧ k < i + d ∧ P k = true ∧ ∀ j, i ≤ j → j < k → P j = false
  | 0, i, k, h => by cases h
  | d + 1, i, k, h => by
    unfold ffr at h
    split at h
    · next hp => cases h; exact ⟨Nat.le_refl _, by omega, hp, fun j h1 h2 => by omega⟩
    · next hp =>
      obtain ⟨a, b, c, e⟩ := ffr_some h
      refine ⟨by omega, by omega, c, fun j h1 h2 => ?_⟩
      by_cases hj : j = i
      · subst hj; simpa using hp
      · exact e j (by omega) h2
theorem ffr_none {P : Nat → Bool} : ∀ {d i : Nat}, ffr P d i = none → ∀ j, i ≤ j → j < i + d → P j = false
  | 0, i, h, j, h1, h2 => by omega
  | d + 1, i, h, j, h1, h2 => by
    unfold ffr at h
    split at h
    · cases h
    · next hp =>
      by_cases hj : j = i
      · subst hj; simpa using hp
      · exact ffr_none h j (by omega) (by omega)
theorem ffr_of {P : Nat → Bool} {d i k : Nat} (h1 : i ≤ k) (h2 : k < i + d) (h3 : P k = true) (h4 : ∀ j, i ≤ j → j < k → P j = false) : ffr P d i = some k := by
  cases h : ffr P d i with
  | none => have := ffr_none h k h1 h2; rw [h3] at this; cases this
  | some k2 =>
    obtain ⟨a, b, c, e⟩ := ffr_some h
    have : k2 = k := by
      rcases Nat.lt_trichotomy k2 k with q | q | q
      · have := h4 k2 a q; rw [c] at this; cases this
      · exact q
      · have := e k h1 q; rw [h3] at this; cases this
    rw [this]
theorem ffr_no {P : Nat → Bool} {d i : Nat} (h4 : ∀ j, i ≤ j → j < i + d → P j = false) : ffr P d i = none := by
  cases h : ffr P d i with
  | none => rfl
  | some k2 =>
    obtain ⟨a, b, c, e⟩ := ffr_some h
    have := h4 k2 a b; rw [c] at this; cases this
theorem ffr_congr {P Q : Nat → Bool} : ∀ {d i : Nat}, (∀ j, i ≤ j → j < i + d → P j = Q j) → ffr P d i = ffr Q d i
  | 0, _, _ => rfl
  | d + 1, i, h => by
    unfold ffr
    rw [h i (Nat.le_refl _) (by omega), ffr_congr (fun j h1 h2 => h j (by omega) (by omega))]
theorem jfx_s {κ : Type} (F : κ → κ) (z : κ) (n : Nat) : jfx F z (n + 1) = F (jfx F z n) := rfl
theorem jin_N {n N : Nat} (h : n < N) (hN : N < 2147483648) : jin (nI n) N := by
  have := nI_toInt (n := n) (by omega)
  unfold jin
  rw [this]
  omega
theorem jin_T {n N : Nat} (h : n < N) (hN : N < 2147483648) : jin (nI n) N = True := eq_true (jin_N h hN)
theorem cl_N {n : Nat} (h : n < 2147483648) : (nI n).toNatClampNeg = n := nI_clamp h
theorem nle_N {a b : Nat} (ha : a < 2147483648) (hb : b < 2147483648) : (nI a ≤ nI b) = (a ≤ b) := propext (nI_leI ha hb)
theorem nlt_N {a b : Nat} (ha : a < 2147483648) (hb : b < 2147483648) : (nI a < nI b) = (a < b) := propext (nI_ltI ha hb)
theorem neq_N {a b : Nat} (ha : a < 2147483648) (hb : b < 2147483648) : (nI a = nI b) = (a = b) := propext (nI_eq ha hb)
theorem lt0_N {a : Nat} (ha : a < 2147483648) : (nI a < 0) = False := eq_false (nI_pos ha)
theorem le0_N {a : Nat} (ha : a < 2147483648) : (nI a ≤ 0) = (a = 0) := by
  rw [← nI_0, nle_N ha (by omega)]
  exact propext (by omega)
theorem ge0_N {a : Nat} (ha : a < 2147483648) : (0 ≤ nI a) = True := eq_true (nI_pos' ha)
theorem m1_ne {a : Nat} (ha : a < 2147483648) : ¬ nI a = -1 := by
  intro h
  have := nI_pos (n := a) ha
  rw [h] at this
  exact this (by decide)
theorem m1_N {a : Nat} (ha : a < 2147483648) : (nI a = -1) = False := eq_false (m1_ne ha)
theorem m1_N' {a : Nat} (ha : a < 2147483648) : ((-1 : Int32) = nI a) = False := eq_false (fun h => m1_ne ha h.symm)
theorem ju1_eq {α : Type} (f : Nat → α) (k : Nat) (v : α) : ju1 f k v k = v := by simp [ju1]
theorem ju1_ne {α : Type} (f : Nat → α) {k : Nat} (v : α) {j : Nat} (h : j ≠ k) : ju1 f k v j = f j := by simp [ju1, h]
theorem jup_q {α : Type} (f : Nat → Nat → α) (r k : Nat) (v : α) : jup f r k v r = ju1 (f r) k v := jup_self f r k v
theorem jrow_jrow {α : Type} (f : Nat → α) (r : Nat) (g h : α) : jrow (jrow f r g) r h = jrow f r h := by
  funext a; unfold jrow; split <;> rfl
theorem jrow_jup {α : Type} (f : Nat → Nat → α) (r : Nat) (g : Nat → α) (k : Nat) (v : α) : jup (jrow f r g) r k v = jrow f r (ju1 g k v) := by
  unfold jup
  rw [jrow_jrow, jrow_self]
theorem jup_def {α : Type} (f : Nat → Nat → α) (r k : Nat) (v : α) : jup f r k v = jrow f r (ju1 (f r) k v) := rfl
theorem jrow_id {α : Type} (f : Nat → α) (r : Nat) : jrow f r (f r) = f := by
  funext a; unfold jrow; split
  · next h => rw [h]
  · rfl
theorem jrow_comm {α : Type} (f : Nat → α) {r s : Nat} (g h : α) (hn : r ≠ s) : jrow (jrow f r g) s h = jrow (jrow f s h) r g := by
  funext a; unfold jrow
  by_cases h1 : a = s
  · subst h1; rw [if_pos rfl, if_neg (fun e => hn e.symm), if_pos rfl]
  · rw [if_neg h1]
    by_cases h2 : a = r
    · rw [if_pos h2, if_pos h2]
    · rw [if_neg h2, if_neg h2, if_neg h1]
theorem ju1_comm {α : Type} (f : Nat → α) {r s : Nat} (g h : α) (hn : r ≠ s) : ju1 (ju1 f r g) s h = ju1 (ju1 f s h) r g := by
  funext a; unfold ju1
  by_cases h1 : a = s
  · subst h1; rw [if_pos rfl, if_neg (fun e => hn e.symm), if_pos rfl]
  · rw [if_neg h1]
    by_cases h2 : a = r
    · rw [if_pos h2, if_pos h2]
    · rw [if_neg h2, if_neg h2, if_neg h1]
theorem ob_some {α ρ : Type} (x : α) (f : α → Option ρ) : (some x).bind f = f x := rfl
theorem jb2_some {α β ρ : Type} (x : α) (y : β) (f : α → β → Option ρ) : jb2 (some (x, y)) f = f x y := rfl
theorem jb3_some {α β γ ρ : Type} (x : α) (y : β) (z : γ) (f : α → β → γ → Option ρ) : jb3 (some (x, y, z)) f = f x y z := rfl
theorem jlet_d {α β : Type} (a : α) (f : α → β) : jlet a f = f a := rfl
theorem rM0 : rfC 164 0 = 165 := by decide +kernel
theorem rM1 : rfC 164 1 = 166 := by decide +kernel
theorem rM2 : rfC 164 2 = 167 := by decide +kernel
/-! the model's addresses -/
theorem at_e (x : Int32) (l w : Nat) (hx : x = nI w) : X7_at (nI l) x = some (nI (128 + 140 * l + w)) := by
  subst hx
  show some ((nI 128 + nI 140 * nI l) + nI w) = _
  rw [pk_mul, nI_add, nI_add]
theorem slotAt_e (x : Int32) (l k w : Nat) (hx : x = nI w) : X7_slotAt (nI l) (nI k) x = some (nI (140 + 140 * l + 7 * k + w)) := by
  subst hx
  show some ((((nI 128 + nI 140 * nI l) + nI 12) + nI 7 * nI k) + nI w) = _
  rw [pk_mul, pk_mul, nI_add, nI_add, nI_add, nI_add]
  congr 2
  omega
theorem of_e (x : Int32) (l w : Nat) (hx : x = nI w) (h : 128 + 140 * l + w < 784) (I : jI) : X7_of 164 (nI l) x I = some (I 165 (128 + 140 * l + w)) := by
  unfold X7_of
  rw [at_e x l w hx, ob_some, if_pos (jin_N h (by omega)), rM0, cl_N (by omega)]
theorem note_e (x : Int32) (l k w : Nat) (hx : x = nI w) (h : 140 + 140 * l + 7 * k + w < 784) (I : jI) : X7_note 164 (nI l) (nI k) x I = some (I 165 (140 + 140 * l + 7 * k + w)) := by
  unfold X7_note
  rw [slotAt_e x l k w hx, ob_some, if_pos (jin_N h (by omega)), rM0, cl_N (by omega)]
def fnd (m : Nat → Int32) (l s : Nat) (p : Int32) : Option Nat := ffr (fun k => decide (m (140 + 140 * l + 7 * k) = p)) s 0
theorem found_e {l s : Nat} (hl : l < 4) (hs : s ≤ 16) {I : jI} (hm : I 165 (128 + 140 * l) = nI s) (p : Int32) : X7_found 164 (nI l) p I = some (oI (fnd (I 165) l s p)) := by
  have key : ∀ d n i, i + d = s → d < n → jfx (X7_found_F1 164 (nI l) p I) (fun _ => none) n (nI i) = some (oI (ffr (fun k => decide (I 165 (140 + 140 * l + 7 * k) = p)) d i)) := by
    intro d
    induction d with
    | zero =>
      intro n i h1 h2
      obtain ⟨n, rfl⟩ : ∃ q, n = q + 1 := ⟨n - 1, by omega⟩
      rw [jfx_s, X7_found_F1, of_e 0 l 0 rfl (by omega) I, ob_some, Nat.add_zero, hm, if_pos (nI_le (by omega) (by omega))]
      rfl
    | succ d ih =>
      intro n i h1 h2
      obtain ⟨n, rfl⟩ : ∃ q, n = q + 1 := ⟨n - 1, by omega⟩
      rw [jfx_s, X7_found_F1, of_e 0 l 0 rfl (by omega) I, ob_some, Nat.add_zero, hm, if_neg (nI_ge (by omega) (by omega)), note_e 0 l i 0 rfl (by omega) I, ob_some, Nat.add_zero]
      unfold ffr
      by_cases hp : I 165 (140 + 140 * l + 7 * i) = p
      · rw [if_pos hp, if_pos (by simpa using hp)]
        rfl
      · rw [if_neg hp, if_neg (by simpa using hp), show nI i + (1 : Int32) = nI (i + 1) from nI_1 i]
        exact ih n (i + 1) (by omega) (by omega)
  exact key s 1000 0 (by omega) (by omega)
