/-! THE CLASS's LEVELS: one method, one equation -/
abbrev Mn : Type := Nat → Int32
def LB (b : Nat) : Prop := b ≠ 0 ∧ rfC b 11 = b + 1 ∧ rfC b 12 = b + 2 ∧ rfC b 13 = b + 3 ∧ rfC b 14 = b + 4 ∧ rfC b 15 = b + 5 ∧ rfC b 16 = b + 6 ∧ rfC b 17 = b + 7 ∧ rfC b 18 = b + 8
def OB (o : Nat) : Prop := o = 2 ∨ o = 48 ∨ o = 94
theorem LB_o {o l : Nat} (ho : OB o) (hl : l < 4) : LB (o + 10 + 9 * l) := by
  have key : ∀ l, l < 4 → (rfC (2 + 10 + 9 * l) 11 = 2 + 10 + 9 * l + 1 ∧ rfC (2 + 10 + 9 * l) 12 = 2 + 10 + 9 * l + 2 ∧ rfC (2 + 10 + 9 * l) 13 = 2 + 10 + 9 * l + 3 ∧ rfC (2 + 10 + 9 * l) 14 = 2 + 10 + 9 * l + 4 ∧ rfC (2 + 10 + 9 * l) 15 = 2 + 10 + 9 * l + 5 ∧ rfC (2 + 10 + 9 * l) 16 = 2 + 10 + 9 * l + 6 ∧ rfC (2 + 10 + 9 * l) 17 = 2 + 10 + 9 * l + 7 ∧ rfC (2 + 10 + 9 * l) 18 = 2 + 10 + 9 * l + 8) ∧
    (rfC (48 + 10 + 9 * l) 11 = 48 + 10 + 9 * l + 1 ∧ rfC (48 + 10 + 9 * l) 12 = 48 + 10 + 9 * l + 2 ∧ rfC (48 + 10 + 9 * l) 13 = 48 + 10 + 9 * l + 3 ∧ rfC (48 + 10 + 9 * l) 14 = 48 + 10 + 9 * l + 4 ∧ rfC (48 + 10 + 9 * l) 15 = 48 + 10 + 9 * l + 5 ∧ rfC (48 + 10 + 9 * l) 16 = 48 + 10 + 9 * l + 6 ∧ rfC (48 + 10 + 9 * l) 17 = 48 + 10 + 9 * l + 7 ∧ rfC (48 + 10 + 9 * l) 18 = 48 + 10 + 9 * l + 8) ∧
    (rfC (94 + 10 + 9 * l) 11 = 94 + 10 + 9 * l + 1 ∧ rfC (94 + 10 + 9 * l) 12 = 94 + 10 + 9 * l + 2 ∧ rfC (94 + 10 + 9 * l) 13 = 94 + 10 + 9 * l + 3 ∧ rfC (94 + 10 + 9 * l) 14 = 94 + 10 + 9 * l + 4 ∧ rfC (94 + 10 + 9 * l) 15 = 94 + 10 + 9 * l + 5 ∧ rfC (94 + 10 + 9 * l) 16 = 94 + 10 + 9 * l + 6 ∧ rfC (94 + 10 + 9 * l) 17 = 94 + 10 + 9 * l + 7 ∧ rfC (94 + 10 + 9 * l) 18 = 94 + 10 + 9 * l + 8) := by decide +kernel
  obtain ⟨k1, k2, k3⟩ := key l hl
  rcases ho with rfl | rfl | rfl
  · exact ⟨by omega, k1⟩
  · exact ⟨by omega, k2⟩
  · exact ⟨by omega, k3⟩
theorem SB_o {o : Nat} (ho : OB o) : rfC o 0 = o + 1 ∧ rfC o 2 = o + 2 ∧ rfC o 14 = o + 3 ∧ rfC o 15 = o + 4 ∧ rfC (o + 4) 0 = o + 5 ∧ rfC (o + 4) 1 = o + 6 ∧ rfC (o + 4) 2 = o + 7 ∧ rfC (o + 4) 3 = o + 8 ∧ rfC (o + 4) 4 = o + 9 ∧ shC o = 5 ∧ ∀ l, l < 4 → rfC (o + 1) l = o + 10 + 9 * l := by
  rcases ho with rfl | rfl | rfl <;> decide +kernel
theorem lge (x : Int32) (n : Nat) (hx : x = nI n) {k : Nat} (h : k < n) (hn : n < 2147483648) : ¬ x ≤ nI k := by subst hx; exact nI_ge h hn
theorem lle (x : Int32) (n : Nat) (hx : x = nI n) {k : Nat} (h : n ≤ k) (hn : k < 2147483648) : x ≤ nI k := by subst hx; exact nI_le h hn
theorem llt (x : Int32) (n : Nat) (hx : x = nI n) {k : Nat} (h : k < n) (hn : n < 2147483648) : nI k < x := by subst hx; exact nI_lt h hn
theorem lnlt (x : Int32) (n : Nat) (hx : x = nI n) {k : Nat} (h : n ≤ k) (hn : k < 2147483648) : ¬ nI k < x := by subst hx; exact nI_nlt h hn
theorem lnlt2 (x : Int32) (n : Nat) (hx : x = nI n) {k : Nat} (h : k ≤ n) (hn : n < 2147483648) : ¬ x < nI k := by subst hx; exact nI_nlt h hn
theorem llt2 (x : Int32) (n : Nat) (hx : x = nI n) {k : Nat} (h : n < k) (hn : k < 2147483648) : x < nI k := by subst hx; exact nI_lt h hn
theorem isSlot_e {k : Nat} (hk : k < 16) : X2_isSlot (nI k) = some 1 := by
  unfold X2_isSlot
  rw [if_neg (nI_pos (by omega)), if_neg (lge (16 : Int32) 16 rfl hk (by omega))]
theorem isPage_e {p : Nat} (hp : p < 64) : X6_isPage (nI p) = some 1 := by
  unfold X6_isPage
  rw [if_neg (nI_pos (by omega)), if_neg (lge (64 : Int32) 64 rfl hp (by omega))]
theorem slotOf_r {b p : Nat} (hb : LB b) (hp : p < 64) (I : jI) : X2_slotOf b (nI p) I = some (I (b + 8) p) := by
  unfold X2_slotOf
  rw [if_neg (nI_pos (by omega)), if_neg (lge (64 : Int32) 64 rfl hp (by omega)), if_pos (jin_N hp (by omega)), hb.2.2.2.2.2.2.2.2, cl_N (by omega)]
theorem pageIn_e {b k : Nat} (hb : LB b) (hk : k < 16) (I : jI) : X2_pageIn b (nI k) I = some (I (b + 1) k) := by
  unfold X2_pageIn
  rw [if_neg (nI_pos (by omega)), if_neg (lge (16 : Int32) 16 rfl hk (by omega)), if_pos (jin_N hk (by omega)), hb.2.1, cl_N (by omega)]
theorem valueIn_e {b k : Nat} (hb : LB b) (hk : k < 16) (I : jI) : X2_valueIn b (nI k) I = some (I (b + 2) k) := by
  unfold X2_valueIn
  rw [if_neg (nI_pos (by omega)), if_neg (lge (16 : Int32) 16 rfl hk (by omega)), if_pos (jin_N hk (by omega)), hb.2.2.1, cl_N (by omega)]
theorem isDirty_e {b k : Nat} (hb : LB b) (hk : k < 16) (I : jI) (h : I (b + 3) k = 0 ∨ I (b + 3) k = 1) : X2_isDirty b (nI k) I = some (I (b + 3) k) := by
  unfold X2_isDirty
  rw [if_neg (nI_pos (by omega)), if_neg (lge (16 : Int32) 16 rfl hk (by omega)), if_pos (jin_N hk (by omega)), hb.2.2.2.1, cl_N (by omega)]
  rcases h with h | h
  · rw [h]; rfl
  · rw [h]; rfl
theorem isDirty_m1 {b : Nat} (I : jI) : X2_isDirty b (-1) I = some 0 := by
  unfold X2_isDirty
  rw [if_pos (by decide)]
def chgI (b k : Nat) (v d : Int32) (I : jI) : jI := jup (jup I (b + 2) k v) (b + 3) k d
theorem change_e {b k : Nat} (hb : LB b) (hk : k < 16) (v d : Int32) (hd : d = 0 ∨ d = 1) (I : jI) : X2_change b (nI k) v d I = some (chgI b k v d I) := by
  unfold X2_change chgI
  have hd2 : jnz d = d := by rcases hd with rfl | rfl <;> rfl
  rw [if_neg (nI_pos (by omega)), if_neg (lge (16 : Int32) 16 rfl hk (by omega)), if_pos (jin_N hk (by omega)), jlet_d, if_pos (jin_N hk (by omega)), jlet_d, hd2, hb.2.2.1, hb.2.2.2.1, cl_N (by omega)]
theorem change_m1 {b : Nat} (v d : Int32) (I : jI) : X2_change b (-1) v d I = some I := by
  unfold X2_change
  rw [if_pos (by decide)]
def holI (b k p : Nat) (x t : Int32) (I : jI) : jI := jup (jup (jup (jup (jup (jup (jup (jup I (b + 1) k (nI p)) (b + 8) p (nI k)) (b + 4) k x) (b + 5) k t) (b + 6) k 1) (b + 7) k 0) b 10 (I b 10 + 1)) b 7 (I b 7 + 1)
theorem hold_e {b k p : Nat} (hb : LB b) (hk : k < 16) (hp : p < 64) (x t : Int32) (I : jI) : X2_hold b (nI k) (nI p) x t I = some (holI b k p x t I) := by
  obtain ⟨h0, h1, h2, h3, h4, h5, h6, h7, h8⟩ := hb
  unfold X2_hold holI
  rw [isSlot_e hk, ob_some, if_neg (by decide), isPage_e hp, ob_some, if_neg (by decide)]
  simp only [if_pos (jin_N hk (show 16 < 2147483648 by omega)), if_pos (jin_N hp (show 64 < 2147483648 by omega)), jlet_d, h1, h4, h5, h6, h7, h8, cl_N (show k < 2147483648 by omega), cl_N (show p < 2147483648 by omega), show jnz 0 = 0 from rfl]
  have e : ∀ (J : jI) (r j : Nat) (v : Int32), r ≠ b → jup J r j v b = J b := fun J r j v h => jup_ne _ _ (fun q => h q.symm)
  simp (disch := omega) only [e, jup_q, ju1_ne]
def lotI (b k p : Nat) (I : jI) : jI := jup (jup (jup (jup (jup I (b + 1) k (-1)) (b + 8) p (-1)) (b + 3) k 0) b 10 (I b 10 - 1)) b 9 (I b 9 + 1)
def relI (b k p : Nat) (I : jI) : jI := jup (jup (jup (jup I (b + 1) k (-1)) (b + 8) p (-1)) (b + 3) k 0) b 10 (I b 10 - 1)
theorem release_e {b k p : Nat} (hb : LB b) (hk : k < 16) (hp : p < 64) (I : jI) (h : I (b + 1) k = nI p) : X2_release b (nI k) I = some (1, relI b k p I) := by
  obtain ⟨h0, h1, h2, h3, h4, h5, h6, h7, h8⟩ := hb
  unfold X2_release relI
  simp only [jlet_d, if_neg (nI_pos (show k < 2 ^ 31 by omega)), if_neg (lge (16 : Int32) 16 rfl hk (by omega)), if_pos (jin_N hk (show 16 < 2147483648 by omega)), h1, cl_N (show k < 2147483648 by omega), h, if_neg (nI_pos (show p < 2 ^ 31 by omega)), if_pos (show nI p < (64 : Int32) from llt (64 : Int32) 64 rfl hp (by omega)), if_pos (jin_N hp (show 64 < 2147483648 by omega)), h3, h8, cl_N (show p < 2147483648 by omega), show jnz 0 = 0 from rfl]
  have e : ∀ (J : jI) (r j : Nat) (v : Int32), r ≠ b → jup J r j v b = J b := fun J r j v h => jup_ne _ _ (fun q => h q.symm)
  simp (disch := omega) only [e]
theorem letOut_e {b k p : Nat} (hb : LB b) (hk : k < 16) (hp : p < 64) (I : jI) (h : I (b + 1) k = nI p) : X2_letOut b (nI k) I = some (lotI b k p I) := by
  unfold X2_letOut
  rw [release_e hb hk hp I h, jb2_some, if_neg (by decide), jlet_d]
  unfold lotI relI
  have e : ∀ (J : jI) (r j : Nat) (v : Int32), r ≠ b → jup J r j v b = J b := fun J r j v h => jup_ne _ _ (fun q => h q.symm)
  simp (disch := omega) only [e, jup_q, ju1_ne]
theorem letOut_m1 {b : Nat} (I : jI) : X2_letOut b (-1) I = some I := by
  unfold X2_letOut X2_release
  simp only [jlet_d, if_pos (show (-1 : Int32) < 0 by decide)]
  rfl
def touI (b k : Nat) (t : Int32) (I : jI) : jI := jup (jup (jup I (b + 5) k t) (b + 6) k (I (b + 6) k + 1)) (b + 7) k 1
theorem touch_e {b k : Nat} (hb : LB b) (hk : k < 16) (t : Int32) (I : jI) : X2_touch b (nI k) t I = some (touI b k t I) := by
  obtain ⟨h0, h1, h2, h3, h4, h5, h6, h7, h8⟩ := hb
  unfold X2_touch touI
  rw [isSlot_e hk, ob_some, if_neg (by decide)]
  simp only [if_pos (jin_N hk (show 16 < 2147483648 by omega)), jlet_d, h5, h6, h7, cl_N (show k < 2147483648 by omega), show jnz 1 = 1 from rfl]
  rw [jup_ne _ _ (show b + 6 ≠ b + 5 by omega)]
theorem slotBehind_e {b k s : Nat} (I : jI) (hs : I b 0 = nI s) (h1 : s ≤ 16) (hk : k < s) : X2_slotBehind b (nI k) I = some (nI ((k + 1) % s)) := by
  unfold X2_slotBehind
  rw [hs, show nI k + (1 : Int32) = nI (k + 1) from nI_1 k]
  by_cases h : s ≤ k + 1
  · rw [if_pos (nI_le h (by omega)), show (k + 1) % s = 0 by rw [show k + 1 = s by omega, Nat.mod_self]]; rfl
  · rw [if_neg (nI_ge (by omega) (by omega)), Nat.mod_eq_of_lt (by omega)]
/-! the store's own -/
theorem levelAt_e {o l cnt : Nat} (ho : OB o) (I : jI) (hc : I o 1 = nI cnt) (h4 : cnt ≤ 4) (hl : l < cnt) : X4_levelAt o (nI (l + 1)) I = some (o + 10 + 9 * l) := by
  obtain ⟨s0, -, -, -, -, -, -, -, -, -, sL⟩ := SB_o ho
  unfold X4_levelAt
  rw [hc, if_neg (lnlt (1 : Int32) 1 rfl (show 1 ≤ l + 1 by omega) (by omega)), if_neg (nI_nlt (by omega) (by omega)), if_neg (lnlt2 (4 : Int32) 4 rfl (show l + 1 ≤ 4 by omega) (by omega)), show nI (l + 1) - (1 : Int32) = nI l from nI_pred l, if_pos (jin_N (by omega) (by omega)), s0, cl_N (by omega), sL l (by omega)]
theorem levelAt_no {o j cnt : Nat} (I : jI) (hc : I o 1 = nI cnt) (h4 : cnt ≤ 4) (hj : j = 0 ∨ cnt < j) (hb : j < 1000) : X4_levelAt o (nI j) I = some 0 := by
  unfold X4_levelAt
  rcases hj with rfl | hj
  · rw [if_pos (by decide)]
  · rw [hc, if_neg (lnlt (1 : Int32) 1 rfl (show 1 ≤ j by omega) (by omega)), if_pos (nI_lt hj (by omega))]
theorem inMem_e {o p : Nat} (ho : OB o) (hp : p < 64) (I : jI) : X4_inMemory o (nI p) I = some (I (o + 2) p) := by
  obtain ⟨s0, s2, -⟩ := SB_o ho
  unfold X4_inMemory
  rw [if_neg (nI_pos (by omega)), if_neg (lge (64 : Int32) 64 rfl hp (by omega)), if_pos (jin_N hp (by omega)), s2, cl_N (by omega)]
def pimI (o p : Nat) (v : Int32) (I : jI) : jI := jup (jup I (o + 2) p v) o 11 (I o 11 + 1)
theorem putMem_e {o p : Nat} (ho : OB o) (hp : p < 64) (v : Int32) (I : jI) : X4_putInMemory o (nI p) v I = some (pimI o p v I) := by
  obtain ⟨s0, s2, -⟩ := SB_o ho
  unfold X4_putInMemory pimI
  rw [if_neg (nI_pos (by omega)), if_neg (lge (64 : Int32) 64 rfl hp (by omega)), if_pos (jin_N hp (by omega)), jlet_d, jlet_d, s2, cl_N (by omega), jup_ne _ _ (show o ≠ o + 2 by omega)]
