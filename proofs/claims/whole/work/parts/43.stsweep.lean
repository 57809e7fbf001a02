/-! the whole relation after a sweep, and after a sweep out -/
theorem REST.keep {o T : Nat} {I I' : jI} {m m' : Mn} (h : REST o T I m) (hf : ∀ f, (f = 3 ∨ f = 5 ∨ f = 6 ∨ f = 10 ∨ f = 12) → I' o f = I o f) (hr : ∀ r k, ((o + 5 ≤ r ∧ r ≤ o + 9) ∨ (r = o + 3 ∧ k = 1)) → I' r k = I r k) (hm : ∀ i, ((64 ≤ i ∧ i < 128) ∨ i = 690 ∨ i = 691 ∨ i = 692 ∨ i = 696 ∨ i = 698 ∨ (701 ≤ i ∧ i < 784)) → m' i = m i) : REST o T I' m' := by
  obtain ⟨⟨f, a1, a2, a3⟩, ⟨b1, b2⟩, ⟨a, c1, c2, c3⟩, d1, d2, ⟨d, e1, e2, e3⟩, g1, g2, g3⟩ := h
  refine ⟨⟨f, a1, by rw [hf _ (by omega)]; exact a2, by rw [hm _ (by omega)]; exact a3⟩, ⟨by rw [hf _ (by omega), hm _ (by omega)]; exact b1, by rw [hm _ (by omega)]; exact b2⟩, ⟨a, c1, by rw [hf _ (by omega)]; exact c2, by rw [hm _ (by omega)]; exact c3⟩, by rw [hf _ (by omega), hm _ (by omega)]; exact d1, by rw [hf _ (by omega), hm _ (by omega)]; exact d2, ⟨d, e1, by rw [hr _ _ (by omega)]; exact e2, by rw [hm _ (by omega)]; exact e3⟩, fun p hp => by rw [hr _ _ (by omega), hm _ (by omega)]; exact g1 p hp, by rw [hm _ (by omega)]; exact g2, fun i hi => ?_⟩
  obtain ⟨x1, x2, x3, x4⟩ := g3 i hi
  rw [hr _ _ (by omega), hr _ _ (by omega), hr _ _ (by omega), hr _ _ (by omega), hm _ (by omega), hm _ (by omega), hm _ (by omega), hm _ (by omega)]
  exact ⟨x1, x2, x3, x4⟩
theorem ST.core {B o cnt mode T : Nat} {S : Nat → Nat} {I : jI} {m : Mn} (h : ST B o cnt mode T S I m) : CORE B o cnt mode T S I m := ⟨h.1, h.2.1, h.2.2.1, h.2.2.2.1, h.2.2.2.2.1⟩
theorem ST.of {B o cnt mode T : Nat} {S : Nat → Nat} {I : jI} {m : Mn} (h : CORE B o cnt mode T S I m) (h2 : RUN B o I m) (h3 : REST o T I m) : ST B o cnt mode T S I m := ⟨h.1, h.2.1, h.2.2.1, h.2.2.2.1, h.2.2.2.2, h2, h3⟩
theorem ST.mono {B B' o cnt mode T : Nat} {S : Nat → Nat} {I : jI} {m : Mn} (h : ST B o cnt mode T S I m) (hB : B ≤ B') : ST B' o cnt mode T S I m := by
  obtain ⟨⟨r, a, b⟩, c⟩ := h.2.2.2.2.2.1
  exact ST.of (h.core.mono hB) ⟨⟨r, by omega, b⟩, c⟩ h.2.2.2.2.2.2
/-- the relation reads only the row's own 784 places, and the store's own cells -/
theorem ST.congr {B o cnt mode T : Nat} {S : Nat → Nat} {I I' : jI} {m m' : Mn} (h : ST B o cnt mode T S I m) (hI : ∀ r, o ≤ r → r < o + 46 → I' r = I r) (hm : ∀ i, i < 784 → m' i = m i) : ST B o cnt mode T S I' m' := by
  obtain ⟨⟨r, a1, a2, a3⟩, a4⟩ := h.2.2.2.2.2.1
  exact ST.of (h.core.congr (hI _ (by omega) (by omega)) (fun r x y => hI r (by omega) y) (by rw [hI _ (by omega) (by omega)]) (fun f _ => by rw [hI o (by omega) (by omega)]) (fun i hi => hm i (by omega)))
    ⟨⟨r, a1, by rw [hI o (by omega) (by omega)]; exact a2, by rw [hm _ (by omega)]; exact a3⟩, by rw [hI o (by omega) (by omega), hm 694 (by omega), hm 695 (by omega)]; exact a4⟩
    (h.2.2.2.2.2.2.keep (fun f _ => by rw [hI o (by omega) (by omega)]) (fun r k hr => by rw [hI r (by omega) (by omega)]) (fun i hi => hm i (by omega)))
theorem sweep_ST {B o cnt mode T l : Nat} {S : Nat → Nat} (ho : OB o) (hl : l < cnt) {I : jI} {m : Mn} (h : ST B o cnt mode T S I m) :
    ∃ c I' m', c ≤ 16 ∧ X4_sweepLevel o (nI (l + 1)) I = some (nI c, I') ∧ (∀ J : jI, J 165 = m → X7_sweeps 164 (nI l) J = some (nI c, jrow J 165 m')) ∧ ST B o cnt mode T S I' m' ∧ (∀ r, (r < o ∨ o + 46 ≤ r) → I' r = I r) := by
  obtain ⟨c, I', m', e0, e1, e2, e3, e4, e5⟩ := sweep_sim ho hl h.core
  obtain ⟨⟨r, a1, a2, a3⟩, a4⟩ := h.2.2.2.2.2.1
  exact ⟨c, I', m', e0, e1, e2, ST.of e3 ⟨⟨r, a1, by rw [e4 o 8 (by omega)]; exact a2, by rw [e5 694 (by omega)]; exact a3⟩, by rw [e4 o 9 (by omega), e5 694 (by omega), e5 695 (by omega)]; exact a4⟩ (h.2.2.2.2.2.2.keep (fun f hf => e4 o f (by omega)) (fun r k hr => e4 r k (by omega)) (fun i hi => e5 i (by omega))), fun r hr => by funext k; exact e4 r k (by omega)⟩
theorem sweepOut_ST {B o cnt mode T : Nat} {S : Nat → Nat} (ho : OB o) {I : jI} {m : Mn} (h : ST B o cnt mode T S I m) :
    ∃ I' m', X4_sweepOut o I = some I' ∧ (∀ J : jI, J 165 = m → X7_sweepsOut 164 J = some (jrow J 165 m')) ∧ ST B o cnt mode T S I' m' ∧ EMP m' cnt ∧ (∀ r, (r < o ∨ o + 46 ≤ r) → I' r = I r) := by
  obtain ⟨I', m', e1, e2, e3, e4, e5, e6, e7, e8⟩ := sweepOut_sim ho h.core
  obtain ⟨-, a4⟩ := h.2.2.2.2.2.1
  exact ⟨I', m', e1, e2, ST.of e3 ⟨⟨0, by omega, e5, e6⟩, Or.inl e6⟩ (h.2.2.2.2.2.2.keep (fun f hf => e7 o f (by omega)) (fun r k hr => e7 r k (by omega)) (fun i hi => e8 i (by omega))), e4, fun r hr => by funext k; exact e7 r k (by omega)⟩
