/-! what one writes at a level, on both sides -/
def mOut (m : Mn) (l k : Nat) : Mn := ju1 (ju1 m (140 + 140 * l + 7 * k) (-1)) (136 + 140 * l) (m (136 + 140 * l) + 1)
def mRel (m : Mn) (l k : Nat) : Mn := ju1 m (140 + 140 * l + 7 * k) (-1)
def mChg (m : Mn) (l k : Nat) (v d : Int32) : Mn := ju1 (ju1 m (140 + 140 * l + 7 * k + 1) v) (140 + 140 * l + 7 * k + 2) d
def mTou (m : Mn) (l k : Nat) (t : Int32) : Mn := ju1 (ju1 (ju1 m (140 + 140 * l + 7 * k + 4) t) (140 + 140 * l + 7 * k + 5) (m (140 + 140 * l + 7 * k + 5) + 1)) (140 + 140 * l + 7 * k + 6) 1
def mPut (m : Mn) (l k p : Nat) (v d x t : Int32) : Mn := ju1 (ju1 (ju1 (ju1 (ju1 (ju1 (ju1 (ju1 m (140 + 140 * l + 7 * k) (nI p)) (140 + 140 * l + 7 * k + 1) v) (140 + 140 * l + 7 * k + 2) d) (140 + 140 * l + 7 * k + 3) x) (140 + 140 * l + 7 * k + 4) t) (140 + 140 * l + 7 * k + 5) 1) (140 + 140 * l + 7 * k + 6) 0) (134 + 140 * l) (m (134 + 140 * l) + 1)
theorem jup_nj {α : Type} (f : Nat → Nat → α) {r k : Nat} (v : α) {a j : Nat} (h : a ≠ r ∨ j ≠ k) : jup f r k v a j = f a j := by
  by_cases e : a = r
  · subst e
    rw [jup_q, ju1_ne _ _ (h.resolve_left (fun z => z rfl))]
  · rw [jup_ne _ _ e]
section LROPS
variable {B b : Nat} {I : jI} {m : Mn} {l s : Nat}
theorem LR.rel (h : LR B b I m l s) {k p : Nat} (hk : k < 16) (hp : p < 64) (hm : m (140 + 140 * l + 7 * k) = nI p) : LR B b (relI b k p I) (mRel m l k) l s := by
  obtain ⟨hks, hix, -, -⟩ := h.slot hk hm hp
  have hocc : occ m l 16 = occ (mRel m l k) l 16 + 1 := occ_add (k := k) hk (by unfold mRel; rw [ju1_eq]) (by rw [hm]; exact m1_ne (by omega)) (fun j hj hne => by unfold mRel; rw [ju1_ne _ _ (by omega)])
  obtain ⟨h1, h2, h3⟩ := h
  refine ⟨?_, fun j hj => ?_, fun q hq => ?_⟩
  · obtain ⟨a1, a2, a3, a4, a5, a6, a7, a8, a9, a10, a11, a12⟩ := h1
    unfold LSC
    rw [hocc] at a12
    have e10 : relI b k p I b 10 = nI (occ (mRel m l k) l 16) := by
      unfold relI
      simp (disch := omega) only [jup_q, ju1_eq]
      rw [a12]
      exact nI_pred _
    rw [e10]
    have eI : ∀ j, j ≠ 10 → relI b k p I b j = I b j := fun j hj => by unfold relI; simp (disch := omega) only [jup_q, jup_ne, ju1_ne]
    have em : ∀ i, i < 140 + 140 * l → mRel m l k i = m i := fun i hi => by unfold mRel; rw [ju1_ne _ _ (by omega)]
    simp (disch := omega) only [eI, em]
    exact ⟨a1, a2, a3, a4, a5, a6, a7, a8, a9, a10, a11, trivial⟩
  · have := h2 j hj
    unfold SLT at this ⊢
    by_cases e : j = k
    · subst e
      refine ⟨?_, Or.inl ⟨?_, ?_⟩⟩
      · unfold relI mRel; simp (disch := omega) only [jup_q, jup_ne, ju1_eq]
      · unfold mRel; rw [ju1_eq]
      · unfold relI; simp (disch := omega) only [jup_q, jup_ne, ju1_eq]
    · have em : ∀ w, w < 7 → mRel m l k (140 + 140 * l + 7 * j + w) = m (140 + 140 * l + 7 * j + w) := fun w hw => by unfold mRel; rw [ju1_ne _ _ (by omega)]
      have em0 := em 0 (by omega)
      simp only [Nat.add_zero] at em0
      have r1 : relI b k p I (b + 1) j = I (b + 1) j := by unfold relI; simp (disch := omega) only [jup_q, jup_ne, ju1_ne]
      have r2 : relI b k p I (b + 2) j = I (b + 2) j := by unfold relI; simp (disch := omega) only [jup_ne]
      have r3 : relI b k p I (b + 3) j = I (b + 3) j := by unfold relI; simp (disch := omega) only [jup_q, jup_ne, ju1_ne]
      have r4 : relI b k p I (b + 4) j = I (b + 4) j := by unfold relI; simp (disch := omega) only [jup_ne]
      have r5 : relI b k p I (b + 5) j = I (b + 5) j := by unfold relI; simp (disch := omega) only [jup_ne]
      have r6 : relI b k p I (b + 6) j = I (b + 6) j := by unfold relI; simp (disch := omega) only [jup_ne]
      have r7 : relI b k p I (b + 7) j = I (b + 7) j := by unfold relI; simp (disch := omega) only [jup_ne]
      rw [r1, r2, r3, r4, r5, r6, r7, em0, em 1 (by omega), em 2 (by omega), em 3 (by omega), em 4 (by omega), em 5 (by omega), em 6 (by omega)]
      obtain ⟨b1, b2⟩ := this
      refine ⟨b1, ?_⟩
      rcases b2 with b2 | ⟨q, a1, a2, a3, a4, a5⟩
      · exact Or.inl b2
      · refine Or.inr ⟨q, a1, a2, a3, ?_, a5⟩
        have hqp : q ≠ p := by
          intro e2
          subst e2
          rw [hix] at a4
          exact e ((nI_eq (by omega) (by omega)).mp a4).symm
        unfold relI
        simp (disch := omega) only [jup_q, jup_ne, ju1_ne]
        exact a4
  · unfold IDX
    by_cases e : q = p
    · subst e
      left
      unfold relI
      simp (disch := omega) only [jup_q, jup_ne, ju1_eq]
    · have r8 : relI b k p I (b + 8) q = I (b + 8) q := by unfold relI; simp (disch := omega) only [jup_q, jup_ne, ju1_ne]
      rw [r8]
      rcases h3 q hq with a | ⟨k', a1, a2, a3⟩
      · exact Or.inl a
      · refine Or.inr ⟨k', a1, a2, ?_⟩
        have hne : k' ≠ k := by
          intro e2
          subst e2
          rw [hm] at a3
          exact e ((nI_eq (by omega) (by omega)).mp a3).symm
        unfold mRel
        rw [ju1_ne _ _ (by omega)]
        exact a3
/-- a number of the level's own, on both sides -/
theorem LR.num (h : LR B b I m l s) {f w : Nat} {x y : Int32} (hf : (f = 4 ∧ w = 9) ∨ (f = 5 ∧ w = 4) ∨ (f = 6 ∧ w = 5) ∨ (f = 7 ∧ w = 6) ∨ (f = 8 ∧ w = 7) ∨ (f = 9 ∧ w = 8)) (hxy : x = y) : LR B b (jup I b f x) (ju1 m (128 + 140 * l + w) y) l s := by
  subst hxy
  obtain ⟨h1, h2, h3⟩ := h
  have er : ∀ r, r ≠ b → jup I b f x r = I r := fun r hr => jup_ne _ _ hr
  have em : ∀ i, 140 + 140 * l ≤ i → ju1 m (128 + 140 * l + w) x i = m i := fun i hi => ju1_ne _ _ (by omega)
  refine ⟨?_, fun j hj => ?_, fun q hq => ?_⟩
  · obtain ⟨a1, a2, a3, a4, a5, a6, a7, a8, a9, a10, a11, a12⟩ := h1
    unfold LSC
    rw [occ_congr (m := m) (fun k hk => em _ (by omega)), jup_q]
    rcases hf with ⟨rfl, rfl⟩ | ⟨rfl, rfl⟩ | ⟨rfl, rfl⟩ | ⟨rfl, rfl⟩ | ⟨rfl, rfl⟩ | ⟨rfl, rfl⟩ <;>
      (simp (disch := omega) only [ju1_ne, show 128 + 140 * l + 9 = 137 + 140 * l by omega, show 128 + 140 * l + 4 = 132 + 140 * l by omega, show 128 + 140 * l + 5 = 133 + 140 * l by omega, show 128 + 140 * l + 6 = 134 + 140 * l by omega, show 128 + 140 * l + 7 = 135 + 140 * l by omega, show 128 + 140 * l + 8 = 136 + 140 * l by omega, ju1_eq]
       first | exact ⟨a1, a2, a3, a4, a5, trivial, a7, a8, a9, a10, a11, a12⟩ | exact ⟨a1, a2, a3, a4, a5, a6, trivial, a8, a9, a10, a11, a12⟩ | exact ⟨a1, a2, a3, a4, a5, a6, a7, trivial, a9, a10, a11, a12⟩ | exact ⟨a1, a2, a3, a4, a5, a6, a7, a8, trivial, a10, a11, a12⟩ | exact ⟨a1, a2, a3, a4, a5, a6, a7, a8, a9, trivial, a11, a12⟩ | exact ⟨a1, a2, a3, a4, a5, a6, a7, a8, a9, a10, trivial, a12⟩ | simp [a1, a2, a3, a4, a5, a6, a7, a8, a9, a10, a11, a12])
  · have := h2 j hj
    unfold SLT at this ⊢
    rw [er _ (by omega), er _ (by omega), er _ (by omega), er _ (by omega), er _ (by omega), er _ (by omega), er _ (by omega), er _ (by omega), em _ (by omega), em _ (by omega), em _ (by omega), em _ (by omega), em _ (by omega), em _ (by omega), em _ (by omega)]
    exact this
  · have := h3 q hq
    unfold IDX at this ⊢
    rw [er _ (by omega)]
    rcases this with a | ⟨k', a1, a2, a3⟩
    · exact Or.inl a
    · exact Or.inr ⟨k', a1, a2, by rw [em _ (by omega)]; exact a3⟩
theorem LR.out (h : LR B b I m l s) {k p : Nat} (hk : k < 16) (hp : p < 64) (hm : m (140 + 140 * l + 7 * k) = nI p) : LR B b (lotI b k p I) (mOut m l k) l s := by
  have h1 := (h.rel hk hp hm).num (f := 9) (w := 8) (x := I b 9 + 1) (y := m (136 + 140 * l) + 1) (by omega) (by rw [h.1.2.2.2.2.2.2.2.2.2.2.1])
  have e1 : lotI b k p I = jup (relI b k p I) b 9 (I b 9 + 1) := rfl
  have e2 : mOut m l k = ju1 (mRel m l k) (128 + 140 * l + 8) (m (136 + 140 * l) + 1) := by
    unfold mOut mRel
    rw [show 128 + 140 * l + 8 = 136 + 140 * l by omega]
  rw [e1, e2]
  exact h1
theorem LR.put (h : LR B b I m l s) {k p x t : Nat} {v d : Int32} (hk : k < s) (he : m (140 + 140 * l + 7 * k) = -1) (hn : ∀ j, j < 16 → ¬ m (140 + 140 * l + 7 * j) = nI p) (hp : p < 64) (hx : x ≤ B) (ht : t ≤ B) (hB : 1 ≤ B) (hd : d = 0 ∨ d = 1) :
    LR B b (chgI b k v d (holI b k p (nI x) (nI t) I)) (mPut m l k p v d (nI x) (nI t)) l s := by
  have hs := h.1.1
  have hP : mPut m l k p v d (nI x) (nI t) (140 + 140 * l + 7 * k) = nI p := by unfold mPut; simp (disch := omega) only [ju1_ne, ju1_eq]
  have hPo : ∀ j, j < 16 → j ≠ k → mPut m l k p v d (nI x) (nI t) (140 + 140 * l + 7 * j) = m (140 + 140 * l + 7 * j) := fun j hj hne => by unfold mPut; simp (disch := omega) only [ju1_ne]
  have hocc : occ (mPut m l k p v d (nI x) (nI t)) l 16 = occ m l 16 + 1 := occ_add (k := k) (by omega) he (by rw [hP]; exact m1_ne (by omega)) hPo
  obtain ⟨h1, h2, h3⟩ := h
  refine ⟨?_, fun j hj => ?_, fun q hq => ?_⟩
  · obtain ⟨a1, a2, a3, a4, a5, a6, a7, a8, a9, a10, a11, a12⟩ := h1
    unfold LSC
    have e10 : chgI b k v d (holI b k p (nI x) (nI t) I) b 10 = nI (occ (mPut m l k p v d (nI x) (nI t)) l 16) := by
      unfold chgI holI
      simp (disch := omega) only [jup_q, jup_ne, ju1_ne, ju1_eq]
      rw [a12, hocc]
      exact nI_1 _
    have e7 : chgI b k v d (holI b k p (nI x) (nI t) I) b 7 = mPut m l k p v d (nI x) (nI t) (134 + 140 * l) := by
      unfold chgI holI mPut
      simp (disch := omega) only [jup_q, jup_ne, ju1_eq]
      rw [a9]
    rw [e10, e7]
    have eI : ∀ j, j ≠ 10 → j ≠ 7 → chgI b k v d (holI b k p (nI x) (nI t) I) b j = I b j := fun j hj hj2 => by unfold chgI holI; simp (disch := omega) only [jup_q, jup_ne, ju1_ne]
    have em : ∀ i, i < 140 + 140 * l → i ≠ 134 + 140 * l → mPut m l k p v d (nI x) (nI t) i = m i := fun i hi hi2 => by unfold mPut; simp (disch := omega) only [ju1_ne]
    simp (disch := omega) only [eI, em]
    exact ⟨a1, a2, a3, a4, a5, a6, a7, a8, trivial, a10, a11, trivial⟩
  · have := h2 j hj
    unfold SLT at this ⊢
    by_cases e : j = k
    · subst e
      refine ⟨?_, Or.inr ⟨p, hp, hP, hk, ?_, ?_, ⟨?_, ?_⟩, ⟨x, hx, ?_, ?_⟩, ⟨t, ht, ?_, ?_⟩, ⟨1, hB, ?_, ?_⟩, ?_, ?_⟩⟩
      · rw [hP]; unfold chgI holI; simp (disch := omega) only [jup_q, jup_ne, ju1_eq]
      · unfold chgI holI; simp (disch := omega) only [jup_q, jup_ne, ju1_eq]
      · unfold chgI holI mPut; simp (disch := omega) only [jup_q, jup_ne, ju1_ne, ju1_eq]
      · unfold chgI holI mPut; simp (disch := omega) only [jup_q, jup_ne, ju1_ne, ju1_eq]
      · unfold mPut; simp (disch := omega) only [ju1_ne, ju1_eq]; exact hd
      · unfold chgI holI; simp (disch := omega) only [jup_q, jup_ne, ju1_ne, ju1_eq]
      · unfold mPut; simp (disch := omega) only [ju1_ne, ju1_eq]
      · unfold chgI holI; simp (disch := omega) only [jup_q, jup_ne, ju1_ne, ju1_eq]
      · unfold mPut; simp (disch := omega) only [ju1_ne, ju1_eq]
      · unfold chgI holI; simp (disch := omega) only [jup_q, jup_ne, ju1_ne, ju1_eq]; rfl
      · unfold mPut; simp (disch := omega) only [ju1_ne, ju1_eq]; rfl
      · unfold chgI holI mPut; simp (disch := omega) only [jup_q, jup_ne, ju1_ne, ju1_eq]
      · left; unfold mPut; simp (disch := omega) only [ju1_ne, ju1_eq]
    · have em : ∀ w, w < 7 → mPut m l k p v d (nI x) (nI t) (140 + 140 * l + 7 * j + w) = m (140 + 140 * l + 7 * j + w) := fun w hw => by unfold mPut; simp (disch := omega) only [ju1_ne]
      have er : ∀ r, r ≠ b → r ≠ b + 8 → chgI b k v d (holI b k p (nI x) (nI t) I) r j = I r j := fun r h1 h2 => by
        unfold chgI holI
        rw [jup_nj _ _ (Or.inr e), jup_nj _ _ (Or.inr e), jup_nj _ _ (Or.inl h1), jup_nj _ _ (Or.inl h1), jup_nj _ _ (Or.inr e), jup_nj _ _ (Or.inr e), jup_nj _ _ (Or.inr e), jup_nj _ _ (Or.inr e), jup_nj _ _ (Or.inl h2), jup_nj _ _ (Or.inr e)]
      rw [er _ (by omega) (by omega), er _ (by omega) (by omega), er _ (by omega) (by omega), er _ (by omega) (by omega), er _ (by omega) (by omega), er _ (by omega) (by omega), er _ (by omega) (by omega), hPo j hj e, em 1 (by omega), em 2 (by omega), em 3 (by omega), em 4 (by omega), em 5 (by omega), em 6 (by omega)]
      obtain ⟨b1, b2⟩ := this
      refine ⟨b1, ?_⟩
      rcases b2 with b2 | ⟨q, a1, a2, a3, a4, a5⟩
      · exact Or.inl b2
      · refine Or.inr ⟨q, a1, a2, a3, ?_, a5⟩
        have hqp : q ≠ p := by
          intro e2
          subst e2
          exact hn j hj a2
        unfold chgI holI
        simp (disch := omega) only [jup_q, jup_ne, ju1_ne]
        exact a4
  · unfold IDX
    by_cases e : q = p
    · subst e
      right
      refine ⟨k, hk, ?_, hP⟩
      unfold chgI holI
      simp (disch := omega) only [jup_q, jup_ne, ju1_eq]
    · have r8 : chgI b k v d (holI b k p (nI x) (nI t) I) (b + 8) q = I (b + 8) q := by unfold chgI holI; simp (disch := omega) only [jup_q, jup_ne, ju1_ne]
      rw [r8]
      rcases h3 q hq with a | ⟨k', a1, a2, a3⟩
      · exact Or.inl a
      · refine Or.inr ⟨k', a1, a2, ?_⟩
        have hne : k' ≠ k := by
          intro e2
          subst e2
          rw [he] at a3
          exact m1_ne (by omega) a3.symm
        rw [hPo k' (by omega) hne]
        exact a3
theorem LR.chg (h : LR B b I m l s) {k p : Nat} {v d : Int32} (hk : k < 16) (hm : m (140 + 140 * l + 7 * k) = nI p) (hp : p < 64) (hd : d = 0 ∨ d = 1) : LR B b (chgI b k v d I) (mChg m l k v d) l s := by
  have hmm : ∀ j, mChg m l k v d (140 + 140 * l + 7 * j) = m (140 + 140 * l + 7 * j) := fun j => by unfold mChg; simp (disch := omega) only [ju1_ne]
  obtain ⟨h1, h2, h3⟩ := h
  refine ⟨?_, fun j hj => ?_, fun q hq => ?_⟩
  · unfold LSC at h1 ⊢
    rw [occ_congr (m := m) (fun j _ => hmm j)]
    have em : ∀ i, i < 140 + 140 * l → mChg m l k v d i = m i := fun i hi => by unfold mChg; simp (disch := omega) only [ju1_ne]
    have er : chgI b k v d I b = I b := by unfold chgI; simp (disch := omega) only [jup_ne]
    simp (disch := omega) only [em]
    rw [er]
    exact h1
  · have := h2 j hj
    unfold SLT at this ⊢
    have er : ∀ r, r ≠ b + 2 → r ≠ b + 3 → chgI b k v d I r = I r := fun r h1 h2 => by unfold chgI; simp (disch := omega) only [jup_ne]
    have em : ∀ w, w ≠ 1 → w ≠ 2 → w < 7 → mChg m l k v d (140 + 140 * l + 7 * j + w) = m (140 + 140 * l + 7 * j + w) := fun w h1 h2 h3 => by unfold mChg; simp (disch := omega) only [ju1_ne]
    rw [er (b + 1) (by omega) (by omega), er (b + 8) (by omega) (by omega), er (b + 4) (by omega) (by omega), er (b + 5) (by omega) (by omega), er (b + 6) (by omega) (by omega), er (b + 7) (by omega) (by omega), hmm j, em 3 (by omega) (by omega) (by omega), em 4 (by omega) (by omega) (by omega), em 5 (by omega) (by omega) (by omega), em 6 (by omega) (by omega) (by omega)]
    by_cases e : j = k
    · subst e
      obtain ⟨b1, b2⟩ := this
      refine ⟨b1, ?_⟩
      rcases b2 with ⟨b2, -⟩ | ⟨q, a1, a2, a3, a4, a5, a6, a7⟩
      · rw [hm] at b2; exact absurd b2 (m1_ne (by omega))
      · refine Or.inr ⟨q, a1, a2, a3, a4, ?_, ⟨?_, ?_⟩, a7⟩
        · unfold chgI mChg; simp (disch := omega) only [jup_q, jup_ne, ju1_ne, ju1_eq]
        · unfold chgI mChg; simp (disch := omega) only [jup_q, ju1_eq]
        · unfold mChg; rw [ju1_eq]; exact hd
    · have r2 : chgI b k v d I (b + 2) j = I (b + 2) j := by unfold chgI; simp (disch := omega) only [jup_q, jup_ne, ju1_ne]
      have r3 : chgI b k v d I (b + 3) j = I (b + 3) j := by unfold chgI; simp (disch := omega) only [jup_q, ju1_ne, jup_ne]
      have m1 : mChg m l k v d (140 + 140 * l + 7 * j + 1) = m (140 + 140 * l + 7 * j + 1) := by unfold mChg; simp (disch := omega) only [ju1_ne]
      have m2 : mChg m l k v d (140 + 140 * l + 7 * j + 2) = m (140 + 140 * l + 7 * j + 2) := by unfold mChg; simp (disch := omega) only [ju1_ne]
      rw [r2, r3, m1, m2]
      exact this
  · have := h3 q hq
    unfold IDX at this ⊢
    have r8 : chgI b k v d I (b + 8) = I (b + 8) := by unfold chgI; simp (disch := omega) only [jup_ne]
    rw [r8]
    simp only [hmm]
    exact this
theorem LR.tou (h : LR B b I m l s) {k t : Nat} (hk : k < 16) (ht : t ≤ B + 1) : LR (B + 1) b (touI b k (nI t) I) (mTou m l k (nI t)) l s := by
  have hmm : ∀ j, mTou m l k (nI t) (140 + 140 * l + 7 * j) = m (140 + 140 * l + 7 * j) := fun j => by unfold mTou; simp (disch := omega) only [ju1_ne]
  obtain ⟨h1, h2, h3⟩ := h
  refine ⟨?_, fun j hj => ?_, fun q hq => ?_⟩
  · unfold LSC at h1 ⊢
    rw [occ_congr (m := m) (fun j _ => hmm j)]
    have em : ∀ i, i < 140 + 140 * l → mTou m l k (nI t) i = m i := fun i hi => by unfold mTou; simp (disch := omega) only [ju1_ne]
    have er : touI b k (nI t) I b = I b := by unfold touI; simp (disch := omega) only [jup_ne]
    simp (disch := omega) only [em]
    rw [er]
    exact h1
  · have := (h2 j hj).mono (show B ≤ B + 1 by omega)
    have hold := h2 j hj
    unfold SLT at this hold ⊢
    have er : ∀ r, r ≠ b + 5 → r ≠ b + 6 → r ≠ b + 7 → touI b k (nI t) I r = I r := fun r h1 h2 h3 => by unfold touI; simp (disch := omega) only [jup_ne]
    have em : ∀ w, w < 4 → mTou m l k (nI t) (140 + 140 * l + 7 * j + w) = m (140 + 140 * l + 7 * j + w) := fun w h3 => by unfold mTou; simp (disch := omega) only [ju1_ne]
    rw [er (b + 1) (by omega) (by omega) (by omega), er (b + 8) (by omega) (by omega) (by omega), er (b + 4) (by omega) (by omega) (by omega), er (b + 2) (by omega) (by omega) (by omega), er (b + 3) (by omega) (by omega) (by omega), hmm j, em 1 (by omega), em 2 (by omega), em 3 (by omega)]
    by_cases e : j = k
    · subst e
      obtain ⟨b1, b2⟩ := this
      refine ⟨b1, ?_⟩
      rcases hold.2 with b2 | ⟨q, a1, a2, a3, a4, a5, a6, ⟨x, x1, x2⟩, -, ⟨z, z1, z2, z3⟩, -⟩
      · exact Or.inl b2
      · refine Or.inr ⟨q, a1, a2, a3, a4, a5, a6, ⟨x, by omega, x2⟩, ⟨t, ht, ?_, ?_⟩, ⟨z + 1, by omega, ?_, ?_⟩, ?_, ?_⟩
        · unfold touI; simp (disch := omega) only [jup_q, jup_ne, ju1_eq]
        · unfold mTou; simp (disch := omega) only [ju1_ne, ju1_eq]
        · unfold touI; simp (disch := omega) only [jup_q, jup_ne, ju1_eq]; rw [z2]; exact nI_1 _
        · unfold mTou; simp (disch := omega) only [ju1_ne, ju1_eq]; rw [z3]; exact nI_1 _
        · unfold touI mTou; simp (disch := omega) only [jup_q, ju1_eq]
        · right; unfold mTou; rw [ju1_eq]
    · have r5 : touI b k (nI t) I (b + 5) j = I (b + 5) j := by unfold touI; simp (disch := omega) only [jup_q, jup_ne, ju1_ne]
      have r6 : touI b k (nI t) I (b + 6) j = I (b + 6) j := by unfold touI; simp (disch := omega) only [jup_q, jup_ne, ju1_ne]
      have r7 : touI b k (nI t) I (b + 7) j = I (b + 7) j := by unfold touI; simp (disch := omega) only [jup_q, jup_ne, ju1_ne]
      have m4 : ∀ w, w < 7 → mTou m l k (nI t) (140 + 140 * l + 7 * j + w) = m (140 + 140 * l + 7 * j + w) := fun w hw => by unfold mTou; simp (disch := omega) only [ju1_ne]
      rw [r5, r6, r7, m4 4 (by omega), m4 5 (by omega), m4 6 (by omega)]
      exact this
  · have := h3 q hq
    unfold IDX at this ⊢
    have r8 : touI b k (nI t) I (b + 8) = I (b + 8) := by unfold touI; simp (disch := omega) only [jup_ne]
    rw [r8]
    simp only [hmm]
    exact this
theorem LR.unuse (h : LR B b I m l s) {k : Nat} (hk : k < 16) : LR B b (jup I (b + 7) k 0) (ju1 m (140 + 140 * l + 7 * k + 6) 0) l s := by
  have hmm : ∀ j, ju1 m (140 + 140 * l + 7 * k + 6) 0 (140 + 140 * l + 7 * j) = m (140 + 140 * l + 7 * j) := fun j => ju1_ne _ _ (by omega)
  obtain ⟨h1, h2, h3⟩ := h
  refine ⟨?_, fun j hj => ?_, fun q hq => ?_⟩
  · unfold LSC at h1 ⊢
    rw [occ_congr (m := m) (fun j _ => hmm j)]
    simp (disch := omega) only [jup_ne, ju1_ne]
    exact h1
  · have := h2 j hj
    unfold SLT at this ⊢
    have em : ∀ w, w < 6 → ju1 m (140 + 140 * l + 7 * k + 6) 0 (140 + 140 * l + 7 * j + w) = m (140 + 140 * l + 7 * j + w) := fun w hw => ju1_ne _ _ (by omega)
    rw [hmm j, em 1 (by omega), em 2 (by omega), em 3 (by omega), em 4 (by omega), em 5 (by omega)]
    simp (disch := omega) only [jup_ne]
    obtain ⟨b1, b2⟩ := this
    refine ⟨b1, ?_⟩
    rcases b2 with b2 | ⟨q, a1, a2, a3, a4, a5, a6, a7, a8, a9, a10, a11⟩
    · exact Or.inl b2
    · refine Or.inr ⟨q, a1, a2, a3, a4, a5, a6, a7, a8, a9, ?_⟩
      by_cases e : j = k
      · subst e
        rw [jup_q, ju1_eq, ju1_eq]
        exact ⟨rfl, Or.inl rfl⟩
      · rw [jup_q, ju1_ne _ _ e, ju1_ne _ _ (by omega)]
        exact ⟨a10, a11⟩
  · have := h3 q hq
    unfold IDX at this ⊢
    rw [jup_ne _ _ (by omega)]
    simp only [hmm]
    exact this
theorem LR.hand (h : LR B b I m l s) {k : Nat} (hk : k < s) : LR B b (jup I b 3 (nI k)) (ju1 m (131 + 140 * l) (nI k)) l s := by
  obtain ⟨h1, h2, h3⟩ := h
  have em : ∀ i, i ≠ 131 + 140 * l → ju1 m (131 + 140 * l) (nI k) i = m i := fun i hi => ju1_ne _ _ hi
  refine ⟨?_, fun j hj => ?_, fun q hq => ?_⟩
  · obtain ⟨a1, a2, a3, a4, a5, a6⟩ := h1
    unfold LSC
    rw [occ_congr (m := m) (fun k hk => em _ (by omega)), jup_q]
    simp (disch := omega) only [ju1_ne, ju1_eq]
    exact ⟨a1, a2, a3, a4, ⟨k, hk, rfl, rfl⟩, a6⟩
  · have := h2 j hj
    unfold SLT at this ⊢
    rw [em _ (by omega), em _ (by omega), em _ (by omega), em _ (by omega), em _ (by omega), em _ (by omega), em _ (by omega)]
    simp (disch := omega) only [jup_ne]
    exact this
  · have := h3 q hq
    unfold IDX at this ⊢
    rw [jup_ne _ _ (by omega)]
    rcases this with a | ⟨k', a1, a2, a3⟩
    · exact Or.inl a
    · exact Or.inr ⟨k', a1, a2, by rw [em _ (by omega)]; exact a3⟩
end LROPS
