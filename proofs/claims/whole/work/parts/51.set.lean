/-! SETTINGS: on both sides -/
theorem jb2_eta {α β : Type} (x : Option (α × β)) (f : α → β → Option (α × β)) (h : ∀ a b, f a b = some (a, b)) : jb2 x f = x := by
  cases x with
  | none => rfl
  | some v => exact h v.1 v.2
theorem REST.chg {o T : Nat} {I I' : jI} {m m' : Mn} (h : REST o T I m) (hr : ∀ r k, ((o + 5 ≤ r ∧ r ≤ o + 9) ∨ (r = o + 3 ∧ k = 1)) → I' r k = I r k) (hm : ∀ i, ((64 ≤ i ∧ i < 128) ∨ (701 ≤ i ∧ i < 784)) → m' i = m i)
    (c1 : ∃ f, f ≤ 999 ∧ I' o 3 = nI f ∧ m' 692 = nI f) (c2 : I' o 5 = m' 690 ∧ (m' 690 = 0 ∨ m' 690 = 1)) (c3 : ∃ a, a ≤ 8 ∧ I' o 6 = nI a ∧ m' 691 = nI a) (c4 : I' o 10 = m' 696) (c5 : I' o 12 = m' 698) : REST o T I' m' := by
  obtain ⟨-, -, -, -, -, ⟨d, e1, e2, e3⟩, g1, g2, g3⟩ := h
  refine ⟨c1, c2, c3, c4, c5, ⟨d, e1, by rw [hr _ _ (by omega)]; exact e2, by rw [hm _ (by omega)]; exact e3⟩, fun p hp => by rw [hr _ _ (by omega), hm _ (by omega)]; exact g1 p hp, by rw [hm _ (by omega)]; exact g2, fun i hi => ?_⟩
  obtain ⟨x1, x2, x3, x4⟩ := g3 i hi
  rw [hr _ _ (by omega), hr _ _ (by omega), hr _ _ (by omega), hr _ _ (by omega), hm _ (by omega), hm _ (by omega), hm _ (by omega), hm _ (by omega)]
  exact ⟨x1, x2, x3, x4⟩
theorem rx0 : (-52 : Int32) - (-52) = nI 0 := by decide
theorem rx1 : (-52 : Int32) - (-53) = nI 1 := by decide
theorem rx2 : (-52 : Int32) - (-54) = nI 2 := by decide
theorem rx3 : (-52 : Int32) - (-55) = nI 3 := by decide
theorem rx4 : (-52 : Int32) - (-56) = nI 4 := by decide
section STU
variable {B o cnt mode T : Nat} {S : Nat → Nat} {I : jI} {m : Mn}
/-- a field of the store that is no part of the core -/
theorem ST.fld (h : ST B o cnt mode T S I m) (f i : Nat) (v : Int32) (hf : f = 3 ∨ f = 5 ∨ f = 6) (hi : 690 ≤ i ∧ i ≤ 692) (hR : REST o T (jup I o f v) (ju1 m i v)) : ST B o cnt mode T S (jup I o f v) (ju1 m i v) := by
  obtain ⟨⟨r, a1, a2, a3⟩, a4⟩ := h.2.2.2.2.2.1
  refine ST.of (h.core.congr (jup_ne _ _ (by omega)) (fun r _ _ => jup_ne _ _ (by omega)) (by rw [jup_ne _ _ (by omega)]) (fun g hg => by rw [jup_q, ju1_ne _ _ (by omega)]) (fun w hw => ju1_ne _ _ (by omega))) ⟨⟨r, a1, ?_, ?_⟩, ?_⟩ hR
  · rw [jup_q, ju1_ne _ _ (by omega)]; exact a2
  · rw [ju1_ne _ _ (by omega)]; exact a3
  · rw [jup_q, ju1_ne _ _ (by omega), ju1_ne _ _ (by omega), ju1_ne _ _ (by omega)]; exact a4
theorem ST.ahead (h : ST B o cnt mode T S I m) {a : Nat} (ha : a ≤ 8) : ST B o cnt mode T S (jup I o 6 (nI a)) (ju1 m 691 (nI a)) := by
  obtain ⟨⟨f, c1, c2, c3⟩, ⟨b1, b2⟩, -, d1, d2, -⟩ := h.2.2.2.2.2.2
  refine h.fld 6 691 _ (by omega) (by omega) (h.2.2.2.2.2.2.chg (fun r k hr => by rw [jup_ne _ _ (by omega)]) (fun i hi => ju1_ne _ _ (by omega)) ⟨f, c1, ?_, ?_⟩ ⟨?_, ?_⟩ ⟨a, ha, ?_, ?_⟩ ?_ ?_) <;> simp (disch := omega) only [jup_q, ju1_eq, ju1_ne] <;> assumption
theorem ST.far (h : ST B o cnt mode T S I m) {a : Nat} (ha : a ≤ 999) : ST B o cnt mode T S (jup I o 3 (nI a)) (ju1 m 692 (nI a)) := by
  obtain ⟨-, ⟨b1, b2⟩, ⟨f, c1, c2, c3⟩, d1, d2, -⟩ := h.2.2.2.2.2.2
  refine h.fld 3 692 _ (by omega) (by omega) (h.2.2.2.2.2.2.chg (fun r k hr => by rw [jup_ne _ _ (by omega)]) (fun i hi => ju1_ne _ _ (by omega)) ⟨a, ha, ?_, ?_⟩ ⟨?_, ?_⟩ ⟨f, c1, ?_, ?_⟩ ?_ ?_) <;> simp (disch := omega) only [jup_q, ju1_eq, ju1_ne] <;> assumption
theorem ST.wrs (h : ST B o cnt mode T S I m) {v : Int32} (hv : v = 0 ∨ v = 1) : ST B o cnt mode T S (jup I o 5 v) (ju1 m 690 v) := by
  obtain ⟨⟨g, a1, a2, a3⟩, -, ⟨f, c1, c2, c3⟩, d1, d2, -⟩ := h.2.2.2.2.2.2
  refine h.fld 5 690 _ (by omega) (by omega) (h.2.2.2.2.2.2.chg (fun r k hr => by rw [jup_ne _ _ (by omega)]) (fun i hi => ju1_ne _ _ (by omega)) ⟨g, a1, ?_, ?_⟩ ⟨?_, ?_⟩ ⟨f, c1, ?_, ?_⟩ ?_ ?_) <;> simp (disch := omega) only [jup_q, ju1_eq, ju1_ne] <;> assumption
theorem EMP.exf {m : Mn} {cnt : Nat} (h : EMP m cnt) : EXF m cnt 0 := by
  intro l1 l2 q _ h2 h3 h4 ⟨k, k1, k2⟩ _
  rw [(h l1 (by omega)).2 k k1] at k2
  exact m1_ne (by omega) k2.symm
theorem ST.setMode (h : ST B o cnt mode T S I m) (hE : EMP m cnt) {a : Nat} (ha : a ≤ 2) : ST B o cnt a T S (jup I o 4 (nI a)) (ju1 m 689 (nI a)) := by
  obtain ⟨⟨r, a1, a2, a3⟩, a4⟩ := h.2.2.2.2.2.1
  obtain ⟨⟨g1, g1', g1''⟩, ⟨x1, x2, x3, x4, x5, x6⟩, g3, g4, g5, g6, g7⟩ := h
  have hE' : EMP (ju1 m 689 (nI a)) cnt := fun l hl => by
    obtain ⟨z1, z2⟩ := hE l hl
    exact ⟨by rw [ju1_ne _ _ (by omega)]; exact z1, fun k hk => by rw [ju1_ne _ _ (by omega)]; exact z2 k hk⟩
  refine ⟨⟨g1, ha, g1''⟩, ⟨?_, ?_, ?_, ?_, ?_, ?_⟩, fun j hj => (g3 j hj).congr (fun r _ _ => jup_ne _ _ (by omega)) (fun i _ _ => ju1_ne _ _ (by omega)), g4.congr (jup_ne _ _ (by omega)) (by rw [jup_q, ju1_ne _ _ (by omega)]) (by rw [jup_ne _ _ (by omega)]) (by rw [jup_q, ju1_ne _ _ (by omega)]) (fun i hi => ju1_ne _ _ (by omega)), fun _ => hE'.exf, ⟨⟨r, a1, ?_, ?_⟩, ?_⟩, g7.keep (fun f hf => by rw [jup_q, ju1_ne _ _ (by omega)]) (fun r k hr => by rw [jup_ne _ _ (by omega)]) (fun i hi => ju1_ne _ _ (by omega))⟩ <;> simp (disch := omega) only [jup_q, ju1_eq, ju1_ne] <;> assumption
theorem ST.seed (h : ST B o cnt mode T S I m) (v : Int32) : ST B o cnt mode T S (jup I (o + 3) 0 v) (ju1 m 699 v) := by
  obtain ⟨⟨r, a1, a2, a3⟩, a4⟩ := h.2.2.2.2.2.1
  obtain ⟨⟨g1, g1', g1''⟩, ⟨x1, x2, x3, x4, x5, x6⟩, g3, ⟨y1, y2, y3, y, y4, y5, y6⟩, g5, g6, g7⟩ := h
  refine ⟨⟨g1, g1', g1''⟩, ⟨?_, ?_, ?_, ?_, ?_, ?_⟩, fun j hj => (g3 j hj).congr (fun r _ _ => jup_ne _ _ (by omega)) (fun i _ _ => ju1_ne _ _ (by omega)), ⟨fun p hp => ?_, ?_, ?_, y, y4, ?_, ?_⟩, fun e => (g5 e).of g1 (fun j kk _ h1 h3 => Or.inl (ju1_ne _ _ (by omega))), ⟨⟨r, a1, ?_, ?_⟩, ?_⟩, g7.keep (fun f hf => by rw [jup_ne _ _ (by omega)]) (fun r k hr => jup_nj _ _ (by omega)) (fun i hi => ju1_ne _ _ (by omega))⟩ <;> simp (disch := omega) only [jup_q, jup_ne, ju1_eq, ju1_ne] <;> first | assumption | exact y1 p hp
theorem ST.less (h : ST B o cnt mode T S I m) {c : Nat} (hc : c ≤ cnt) : ST B o c mode T S (jup I o 1 (nI c)) (ju1 m 688 (nI c)) := by
  obtain ⟨⟨r, a1, a2, a3⟩, a4⟩ := h.2.2.2.2.2.1
  obtain ⟨⟨g1, g1', g1''⟩, ⟨x1, x2, x3, x4, x5, x6⟩, g3, g4, g5, g6, g7⟩ := h
  refine ⟨⟨by omega, g1', g1''⟩, ⟨?_, ?_, ?_, ?_, ?_, ?_⟩, fun j hj => (g3 j (by omega)).congr (fun r _ _ => jup_ne _ _ (by omega)) (fun i _ _ => ju1_ne _ _ (by omega)), g4.congr (jup_ne _ _ (by omega)) (by rw [jup_q, ju1_ne _ _ (by omega)]) (by rw [jup_ne _ _ (by omega)]) (by rw [jup_q, ju1_ne _ _ (by omega)]) (fun i hi => ju1_ne _ _ (by omega)), fun e l1 l2 q z1 z2 z3 z4 z5 z6 => g5 e l1 l2 q z1 z2 (by omega) z4 (z5.of (fun k hk => ju1_ne _ _ (by omega))) (z6.of (fun k hk => ju1_ne _ _ (by omega))), ⟨⟨r, a1, ?_, ?_⟩, ?_⟩, g7.keep (fun f hf => by rw [jup_q, ju1_ne _ _ (by omega)]) (fun r k hr => by rw [jup_ne _ _ (by omega)]) (fun i hi => ju1_ne _ _ (by omega))⟩ <;> simp (disch := omega) only [jup_q, ju1_eq, ju1_ne] <;> assumption
end STU
section SETS
variable {B cnt mode T : Nat} {S : Nat → Nat} {I : jI} {L : jL}
/-- the store that is now is another, the model's row with it -/
theorem GG.acc (h : GG B cnt mode T S I L) {I' : jI} {m' : Mn} {B' cnt' mode' T' : Nat} {S' : Nat → Nat} (hS : ST B' 2 cnt' mode' T' S' I' m') (hB : B ≤ B') (hr : ∀ r, (r < 2 ∨ 48 ≤ r) → I' r = I r) (hc : cnt ≤ cnt') (c h6 : Int32) : GG B' cnt' mode' T' S' (Nf I' c h6 m') L := by
  refine h.now (hS.congr (fun r _ _ => ?_) (fun i _ => by rw [Nf_165])) hB (fun r k hk => ?_) hc
  · unfold Nf; rw [jrow_ne _ _ (by omega), jrow_ne _ _ (by omega)]
  · by_cases e : r = 164
    · subst e
      rw [Nf_164, ju1_ne _ _ (by omega), ju1_ne _ _ (by omega), hr _ (by omega)]
    · unfold Nf; rw [jrow_ne _ _ (by omega), jrow_ne _ _ e, hr _ (by omega)]
theorem GG.row (h : GG B cnt mode T S I L) {I' : jI} {m' : Mn} {B' cnt' mode' T' : Nat} {S' : Nat → Nat} (hS : ST B' 2 cnt' mode' T' S' I' m') (hB : B ≤ B') (hr : ∀ r, (r < 2 ∨ 48 ≤ r) → I' r = I r) (hc : cnt ≤ cnt') : GG B' cnt' mode' T' S' (jrow I' 165 m') L := by
  rw [jN]; exact h.acc hS hB hr hc _ _
theorem t_read (h : GG B cnt mode T S I L) (hB : B + 32768 < 1073741824) (x : Int32) : Two B L (X6_read 1 x) (X7_read 164 x) I := by
  rcases page_c x with ⟨e1, e2⟩ | ⟨p, hp, rfl, e1, e2⟩
  · exact Two.ref h 0 (by omega) (-52) rx0 (by unfold X6_read; rw [e1, ob_some, if_pos rfl]; exact jb2_id _) (fun J _ => by unfold X7_read; rw [e2, ob_some, if_pos rfl]; exact jb2_id _)
  · obtain ⟨cost, h6, I', m', -, a1, a2, -, a4, a5, -⟩ := access_sim OB2 h.1 hp (w := 0) (v := 0) (Or.inl rfl) (by omega)
    refine ⟨I' 2 17, I', Nf I' (nI cost) h6 m', ?_, ?_, _, _, _, _, (h.acc a4 (by omega) (fun r hr => a5 r (by omega)) (Nat.le_refl _) _ _).mono (by omega)⟩
    · unfold X6_read
      rw [e1, ob_some, if_neg (by decide), rR.1, a1, jb2_some]
    · unfold X7_read
      rw [e2, ob_some, if_neg (by decide), a2 rfl I' (by rw [a5 _ (by omega)]), jb2_some]
theorem t_write (h : GG B cnt mode T S I L) (hB : B + 32768 < 1073741824) (x v : Int32) : Two B L (X6_write 1 x v) (X7_write 164 x v) I := by
  rcases page_c x with ⟨e1, e2⟩ | ⟨p, hp, rfl, e1, e2⟩
  · exact Two.ref h 0 (by omega) (-52) rx0 (by unfold X6_write; rw [e1, ob_some, if_pos rfl]; exact jb2_id _) (fun J _ => by unfold X7_write; rw [e2, ob_some, if_pos rfl]; exact jb2_id _)
  · obtain ⟨cost, h6, I', m', -, a1, -, a3, a4, a5, -⟩ := access_sim OB2 h.1 hp (w := 1) (v := v) (Or.inr rfl) (by omega)
    refine ⟨nI cost, I', Nf I' (nI cost) h6 m', ?_, ?_, _, _, _, _, (h.acc a4 (by omega) (fun r hr => a5 r (by omega)) (Nat.le_refl _) _ _).mono (by omega)⟩
    · unfold X6_write
      rw [e1, ob_some, if_neg (by decide), rR.1, a1, jb2_some]
    · unfold X7_write
      rw [e2, ob_some, if_neg (by decide), a3 rfl I' (by rw [a5 _ (by omega)]), jb2_some]
/-- a level's number, or none -/
theorem lev_c (h : GG B cnt mode T S I L) (x : Int32) : (X6_isWithin x 1 (I 2 1) = some 0 ∧ ∀ J : jI, J 165 = I 165 → X7_isLevel 164 x J = some 0) ∨ (∃ l, l < cnt ∧ x = nI (l + 1) ∧ X6_isWithin x 1 (I 2 1) = some 1 ∧ ∀ J : jI, J 165 = I 165 → X7_isLevel 164 x J = some 1) := by
  have hc4 := h.1.1.1
  have hI := h.1.2.1.1
  have hm : ∀ J : jI, J 165 = I 165 → X7_isLevel 164 x J = X6_isWithin x 1 (nI cnt) := fun J hJ => rlv hc4 x J (by rw [hJ]; exact h.1.2.1.2.1)
  rw [hI]
  rcases wi_c x 1 (nI cnt) 1 cnt rfl (nI_toInt (by omega)) with e | ⟨e, n, a, b, -, d⟩
  · exact Or.inl ⟨e, fun J hJ => (hm J hJ).trans e⟩
  · exact Or.inr ⟨n - 1, by omega, by rw [d]; congr 1; omega, e, fun J hJ => (hm J hJ).trans e⟩
theorem t_sweep (h : GG B cnt mode T S I L) (x : Int32) : Two B L (X6_sweep 1 x) (X7_sweep 164 x) I := by
  rcases lev_c h x with ⟨e1, e2⟩ | ⟨l, hl, rfl, e1, e2⟩
  · exact Two.ref h 0 (by omega) (-52) rx0 (by unfold X6_sweep; rw [rR.1, e1, ob_some, if_pos rfl]; exact jb2_id _) (fun J hJ => by unfold X7_sweep; rw [e2 J (hJ _ (by omega)), ob_some, if_pos rfl]; exact jb2_id _)
  · obtain ⟨c, I', m', -, a1, a2, a3, a4⟩ := sweep_ST OB2 hl h.1
    refine ⟨nI c, I', jrow I' 165 m', ?_, ?_, _, _, _, _, (h.row a3 (Nat.le_refl _) (fun r hr => a4 r (by omega)) (Nat.le_refl _)).mono (by omega)⟩
    · unfold X6_sweep
      rw [rR.1, e1, ob_some, if_neg (by decide), a1, jb2_some]
    · unfold X7_sweep
      rw [e2 I' (a4 _ (by omega)), ob_some, if_neg (by decide), nI_pred, a2 I' (a4 _ (by omega)), jb2_some]
theorem t_seed (h : GG B cnt mode T S I L) (v : Int32) : Two B L (X6_seed 1 v) (X7_seed 164 v) I := by
  refine ⟨I 5 0, jup I 5 0 v, jrow (jup I 5 0 v) 165 (ju1 (I 165) 699 v), ?_, ?_, _, _, _, _, (h.row (h.1.seed v) (Nat.le_refl _) (fun r hr => jup_ne _ _ (by omega)) (Nat.le_refl _)).mono (by omega)⟩
  · unfold X6_seed
    rw [rR.1, (SB_o OB2).2.2.1, jlet_d, jlet_d]
  · unfold X7_seed
    rw [if_pos (by decide), jlet_d, if_pos (by decide), jlet_d, rM0, show ((699 : Int32)).toNatClampNeg = 699 from rfl, jup_ne _ _ (by omega), jup_def, jup_ne _ _ (by omega), h.1.2.2.2.1.2.2.1]
end SETS
