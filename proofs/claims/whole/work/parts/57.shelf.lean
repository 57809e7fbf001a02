/-! SHELVES: on both sides -/
def Three (B : Nat) (c m : jI → jL → Option (Int32 × jI × jL)) (I : jI) (L : jL) : Prop := ∃ y I1 L1 I2 L2, c I L = some (y, I1, L1) ∧ m I1 L1 = some (y, I2, L2) ∧ ∃ cnt mode T S, GG (B + 32768) cnt mode T S I2 L2
theorem sub1_int {n : Nat} (hn : n < 2147483648) : (nI n - (1 : Int32)).toInt = (n : Int) - 1 := by
  cases n with
  | zero => decide
  | succ k => rw [nI_pred, nI_toInt (by omega)]; omega
theorem forty (s i : Nat) : (40 : Int32) * nI s + nI i = nI (40 * s + i) := by
  rw [show (40 : Int32) = nI 40 from rfl, pk_mul, nI_add]
theorem shelf_c (x : Int32) : (X6_shelfAt 1 x = some 0 ∧ X7_isShelf x = some 0) ∨ (∃ s, s < 8 ∧ x = nI s ∧ X6_shelfAt 1 (nI s) = some (148 + 2 * s) ∧ X7_isShelf (nI s) = some 1) := by
  have e2 : ∀ y : Int32, X7_isShelf y = (X6_isWithin y 0 7).bind (fun (y1 : Int32) => if y1 = 0 ∨ y1 = 1 then some y1 else none) := fun y => by
    unfold X7_isShelf
    rw [within_e y 0 7 0 7 rfl rfl]
  rcases wi_c x 0 7 0 7 rfl rfl with h | ⟨h, n, a, b, -, d⟩
  · left
    rw [e2, h]
    refine ⟨?_, rfl⟩
    unfold X6_shelfAt
    rw [show (8 : Int32) - (1 : Int32) = 7 from by decide, h, ob_some, if_pos rfl]
  · right
    subst d
    refine ⟨n, by omega, rfl, shelfAt_e (by omega), ?_⟩
    rw [e2, h]
    rfl
section SHS
variable {B cnt mode T : Nat} {S : Nat → Nat} {I : jI} {L : jL}
theorem Three.ref {c m : jI → jL → Option (Int32 × jI × jL)} (h : GG B cnt mode T S I L) (e : Nat) (he : e < 5) (x : Int32) (hx : (-52 : Int32) - x = nI e) (h1 : c I L = jb2 (X6_refuse 1 x I) (fun y J => some (y, J, L))) (h2 : ∀ J : jI, (∀ r, r ≠ 146 → J r = I r) → m J L = jb2 (X7_refuses 164 x J) (fun y J' => some (y, J', L))) : Three B c m I L := by
  obtain ⟨I1, I2, a, b, g⟩ := rf_both h e he x hx
  have hI1 : ∀ r, r ≠ 146 → I1 r = I r := fun r hr => by
    rw [refuse_c e he x hx I] at a
    have := (Prod.mk.inj (Option.some.inj a)).2
    rw [← this, rT.2.2.1, jup_ne _ _ hr]
  exact ⟨x, I1, L, I2, L, by rw [h1, a, jb2_some], by rw [h2 I1 hI1, b, jb2_some], cnt, mode, T, S, g.mono (by omega)⟩
/-- what a shelf holds -/
theorem sh_c {s : Nat} (hs : s < 8) (h : SHF cnt I L s) (hc4 : cnt ≤ 4) :
    (X3_isRow (148 + 2 * s) I = some 0 ∧ X3_isRule (148 + 2 * s) I = some 0 ∧ X6_rowRefusal (148 + 2 * s) I = some (-54) ∧ (∀ J : jI, J 170 = I 170 → X7_amiss 164 (nI s) J = some (-54)) ∧ I (148 + 2 * s) 2 = 0 ∧ I (148 + 2 * s) 1 = -1 ∧ I 170 s = -1) ∨
    (∃ l, l < cnt ∧ X3_isRow (148 + 2 * s) I = some 0 ∧ X3_isRule (148 + 2 * s) I = some 1 ∧ X6_rowRefusal (148 + 2 * s) I = some (-53) ∧ (∀ J : jI, J 170 = I 170 → X7_amiss 164 (nI s) J = some (-53)) ∧ I (148 + 2 * s) 2 = 0 ∧ I (148 + 2 * s) 1 = nI (l + 1) ∧ I 170 s = nI (10 + (l + 1))) ∨
    (∃ k n, k ≤ 4 ∧ n ≤ 40 ∧ X3_isRow (148 + 2 * s) I = some 1 ∧ X3_isRule (148 + 2 * s) I = some 0 ∧ X6_rowRefusal (148 + 2 * s) I = some 0 ∧ (∀ J : jI, J 170 = I 170 → X7_amiss 164 (nI s) J = some 0) ∧ I (148 + 2 * s) 2 = nI n ∧ I (148 + 2 * s) 0 = nI k ∧ I 170 s = nI k ∧ I 171 s = nI n ∧ ∀ i, i < 40 → L (149 + 2 * s) i = L 172 (40 * s + i)) := by
  have hj : jin (nI s) 8 := jin_N hs (by omega)
  have hn0 : ¬ (148 + 2 * s = 0) := by omega
  rcases h with ⟨a1, a2, a3, a4⟩ | ⟨l, b1, b2, b3, b4, b5, b6⟩ | ⟨k, n, a1, a2, a3, a4, a5, a6, a7, a8⟩
  · left
    have r1 : X3_isRow (148 + 2 * s) I = some 0 := by unfold X3_isRow; rw [a1, if_pos rfl]
    have r2 : X3_isRule (148 + 2 * s) I = some 0 := by unfold X3_isRule; rw [a2, if_pos rfl]
    refine ⟨r1, r2, ?_, fun J hJ => ?_, a3, a2, a4⟩
    · unfold X6_rowRefusal; rw [if_neg hn0, r2, ob_some, if_pos rfl, r1, ob_some, if_pos rfl]
    · unfold X7_amiss; rw [if_pos hj, rMM.2.2.1, cl_N (by omega), hJ, a4, if_neg (by decide)]
  · right; left
    obtain ⟨l', rfl⟩ : ∃ l', l = l' + 1 := ⟨l - 1, by omega⟩
    have r1 : X3_isRow (148 + 2 * s) I = some 0 := by unfold X3_isRow; rw [b3, if_pos rfl]
    have r2 : X3_isRule (148 + 2 * s) I = some 1 := by unfold X3_isRule; rw [b4, if_neg (m1_ne (by omega))]
    refine ⟨l', by omega, r1, r2, ?_, fun J hJ => ?_, b5, b4, b6⟩
    · unfold X6_rowRefusal; rw [if_neg hn0, r2, ob_some, if_neg (by decide)]
    · unfold X7_amiss; rw [if_pos hj, rMM.2.2.1, cl_N (by omega), hJ, b6, if_pos (nI_pos' (by omega)), if_pos hj, if_neg (lnle9 (by omega) (by omega))]
  · right; right
    have r1 : X3_isRow (148 + 2 * s) I = some 1 := by unfold X3_isRow; rw [a3, if_neg (m1_ne (by omega))]
    have r2 : X3_isRule (148 + 2 * s) I = some 0 := by unfold X3_isRule; rw [a4, if_pos rfl]
    refine ⟨k, n, a1, a2, r1, r2, ?_, fun J hJ => ?_, a5, a3, a6, a7, a8⟩
    · unfold X6_rowRefusal; rw [if_neg hn0, r2, ob_some, if_pos rfl, r1, ob_some, if_neg (by decide)]
    · unfold X7_amiss; rw [if_pos hj, rMM.2.2.1, cl_N (by omega), hJ, a6, if_pos (nI_pos' (by omega)), if_pos hj, if_pos (show nI k ≤ (9 : Int32) from nI_le (b := 9) (by omega) (by omega))]
theorem hasEl_c {s n : Nat} (hn : n ≤ 40) (hI : I (148 + 2 * s) 2 = nI n) (x : Int32) : (X3_hasElement (148 + 2 * s) x I = some 0 ∧ X6_isWithin x 0 (nI n - (1 : Int32)) = some 0) ∨ (∃ i, i < n ∧ x = nI i ∧ X3_hasElement (148 + 2 * s) x I = some 1 ∧ X6_isWithin x 0 (nI n - (1 : Int32)) = some 1) := by
  rcases wi_c x 0 (nI n - (1 : Int32)) 0 _ rfl (sub1_int (by omega)) with h | ⟨h, i, a, b, -, d⟩
  · left
    refine ⟨?_, h⟩
    unfold X3_hasElement
    rw [hI, h, ob_some, if_pos rfl]
  · right
    refine ⟨i, by omega, d, ?_, h⟩
    unfold X3_hasElement
    rw [hI, h, ob_some, if_neg (by decide), d, if_neg (lge (40 : Int32) 40 rfl (by omega) (by omega))]
theorem t_element (h : GG B cnt mode T S I L) (x y : Int32) : ∃ v, X6_element 1 x y I L = some v ∧ X7_element 164 x y I L = some v := by
  have hc4 := h.1.1.1
  rcases shelf_c x with ⟨e1, e2⟩ | ⟨s, hs, rfl, e1, e2⟩
  · exact ⟨0, by unfold X6_element; rw [e1, ob_some, if_pos rfl], by unfold X7_element; rw [e2, ob_some, if_pos rfl]⟩
  · have hn0 : ¬ (148 + 2 * s = 0) := by omega
    rcases sh_c hs (h.2.1 s hs) hc4 with ⟨-, -, -, am, sz, -⟩ | ⟨l, -, -, -, -, am, sz, -⟩ | ⟨k, n, -, hn, -, -, -, am, sz, -, hh, hz, hel⟩
    · refine ⟨0, ?_, by unfold X7_element; rw [e2, ob_some, if_neg (by decide), am I rfl, ob_some, if_neg (by decide)]⟩
      unfold X6_element X3_elementAt
      rcases hasEl_c (s := s) (n := 0) (by omega) sz y with ⟨q, -⟩ | ⟨i, q, -⟩
      · rw [e1, ob_some, if_neg hn0, q, ob_some, if_pos rfl, ob_some]
      · omega
    · refine ⟨0, ?_, by unfold X7_element; rw [e2, ob_some, if_neg (by decide), am I rfl, ob_some, if_neg (by decide)]⟩
      unfold X6_element X3_elementAt
      rcases hasEl_c (s := s) (n := 0) (by omega) sz y with ⟨q, -⟩ | ⟨i, q, -⟩
      · rw [e1, ob_some, if_neg hn0, q, ob_some, if_pos rfl, ob_some]
      · omega
    · have hj : jin (nI s) 8 := jin_N hs (by omega)
      rcases hasEl_c (s := s) hn sz y with ⟨q, q2⟩ | ⟨i, hi, rfl, q, q2⟩
      · refine ⟨0, ?_, ?_⟩
        · unfold X6_element X3_elementAt
          rw [e1, ob_some, if_neg hn0, q, ob_some, if_pos rfl, ob_some]
        · unfold X7_element
          rw [e2, ob_some, if_neg (by decide), am I rfl, ob_some, if_pos rfl, if_pos hj, rMM.2.2.2.1, cl_N (by omega), hz, within_e y 0 _ 0 _ rfl rfl, q2, ob_some, if_pos rfl]
      · refine ⟨L 172 (40 * s + i), ?_, ?_⟩
        · unfold X6_element X3_elementAt
          rw [e1, ob_some, if_neg hn0, q, ob_some, if_neg (by decide), if_pos (jin_N (by omega) (by omega)), ob_some, (rS s hs).2, cl_N (by omega), hel i (by omega)]
        · unfold X7_element
          rw [e2, ob_some, if_neg (by decide), am I rfl, ob_some, if_pos rfl, if_pos hj, rMM.2.2.2.1, cl_N (by omega), hz, within_e _ 0 _ 0 _ rfl rfl, q2, ob_some, if_neg (by decide), forty, if_pos (jin_N (by omega) (by omega)), rMM.2.2.2.2.1, cl_N (by omega)]
theorem holds_e {s : Nat} (hs : s < 8) (h : SHF cnt I L s) (hc4 : cnt ≤ 4) : X6_holds 1 (nI s) I = some (I 170 s) := by
  have hn0 : ¬ (148 + 2 * s = 0) := by omega
  unfold X6_holds
  rw [shelfAt_e hs, ob_some, if_neg hn0]
  rcases h with ⟨a1, a2, a3, a4⟩ | ⟨l, b1, b2, b3, b4, b5, b6⟩ | ⟨k, n, a1, a2, a3, a4, a5, a6, a7, a8⟩
  · unfold X3_isRule; rw [a2, if_pos rfl, ob_some, if_pos rfl, a1, a4]
  · unfold X3_isRule; rw [b4, if_neg (m1_ne (by omega)), ob_some, if_neg (by decide), ten_e, b6]
  · unfold X3_isRule; rw [a4, if_pos rfl, ob_some, if_pos rfl, a3, a6]
theorem t_holds (h : GG B cnt mode T S I L) (x : Int32) : ∃ v, X6_holds 1 x I = some v ∧ X7_holds 164 x I = some v := by
  have hc4 := h.1.1.1
  rcases shelf_c x with ⟨e1, e2⟩ | ⟨s, hs, rfl, e1, e2⟩
  · exact ⟨-1, by unfold X6_holds; rw [e1, ob_some, if_pos rfl], by unfold X7_holds; rw [e2, ob_some, if_pos rfl]⟩
  · refine ⟨I 170 s, holds_e hs (h.2.1 s hs) hc4, ?_⟩
    unfold X7_holds
    rw [e2, ob_some, if_neg (by decide), if_pos (jin_N hs (by omega)), rMM.2.2.1, cl_N (by omega)]
/-- one shelf is another -/
theorem GG.one (h : GG B cnt mode T S I L) {s : Nat} {I' : jI} {L' : jL} (h1 : ∀ r, r ≠ 148 + 2 * s → r ≠ 170 → r ≠ 171 → I' r = I r) (hs8 : s < 8) (h2 : ∀ t, t ≠ s → I' 170 t = I 170 t ∧ I' 171 t = I 171 t) (h3 : ∀ t i, t < 8 → t ≠ s → i < 40 → L' (149 + 2 * t) i = L (149 + 2 * t) i ∧ L' 172 (40 * t + i) = L 172 (40 * t + i)) (hS : SHF cnt I' L' s) : GG B cnt mode T S I' L' := by
  refine h.shelf (h.1.congr (fun r a b => h1 r (by omega) (by omega) (by omega)) (fun i _ => by rw [h1 165 (by omega) (by omega) (by omega)])) (Nat.le_refl _) (fun r k hr => by rw [h1 r (by omega) (by omega) (by omega)]) (fun t ht => ?_)
  by_cases e : t = s
  · subst e; exact hS
  · exact (h.2.1 t ht).congr (fun k _ => by rw [h1 _ (by omega) (by omega) (by omega)]) (h2 t e).1 (h2 t e).2 (fun i hi => h3 t i ht e hi)
theorem t_show (h : GG B cnt mode T S I L) (x y : Int32) : Two B L (X6_show 1 x y) (X7_show 164 x y) I := by
  have hc4 := h.1.1.1
  rcases shelf_c x with ⟨e1, e2⟩ | ⟨s, hs, rfl, e1, e2⟩
  · exact Two.ref h 0 (by omega) (-52) rx0 (by unfold X6_show; rw [e1, ob_some, if_pos rfl]; exact jb2_id _) (fun J _ => by unfold X7_show; rw [e2, ob_some, if_pos rfl]; exact jb2_id _)
  · have hn0 : ¬ (148 + 2 * s = 0) := by omega
    have hj : jin (nI s) 8 := jin_N hs (by omega)
    by_cases hy : y = -1
    · refine ⟨1, jup (jup (jup I (148 + 2 * s) 0 (-1)) (148 + 2 * s) 1 (-1)) (148 + 2 * s) 2 0, jup (jup (jup (jup I (148 + 2 * s) 0 (-1)) (148 + 2 * s) 1 (-1)) (148 + 2 * s) 2 0) 170 s (-1), ?_, ?_, cnt, mode, T, S, GG.mono (h.one (s := s) (fun r a b _ => by simp only [jup_ne _ _ a, jup_ne _ _ b]) hs (fun t ht => ⟨?_, ?_⟩) (fun _ _ _ _ _ => ⟨rfl, rfl⟩) (Or.inl ⟨?_, ?_, ?_, ?_⟩)) (by omega)⟩
      · unfold X6_show X3_holdNothing
        rw [e1, ob_some, if_neg hn0, jlet_d, if_pos hy, if_pos hy, jlet_d, jlet_d, jlet_d, ob_some]
      · unfold X7_show
        rw [e2, ob_some, if_neg (by decide), jlet_d, if_pos hy, if_pos hy, jlet_d, if_pos hj, jlet_d, rMM.2.2.1, cl_N (by omega)]
      · rw [jup_q, ju1_ne _ _ ht, jup_ne _ _ (by omega), jup_ne _ _ (by omega), jup_ne _ _ (by omega)]
      · rw [jup_ne _ _ (by omega), jup_ne _ _ (by omega), jup_ne _ _ (by omega), jup_ne _ _ (by omega)]
      all_goals simp (disch := omega) only [jup_q, jup_ne, ju1_eq, ju1_ne]
    · rcases lev_c h y with ⟨q1, q2⟩ | ⟨l, hl, rfl, q1, q2⟩
      · exact Two.ref h 0 (by omega) (-52) rx0 (by unfold X6_show; rw [e1, ob_some, if_neg hn0, jlet_d, if_neg hy, if_neg hy, rR.1, q1, ob_some, if_pos rfl]; exact jb2_id _) (fun J hJ => by unfold X7_show; rw [e2, ob_some, if_neg (by decide), jlet_d, if_neg hy, if_neg hy, q2 J (hJ _ (by omega)), ob_some, if_pos rfl]; exact jb2_id _)
      · obtain ⟨I1, hI1⟩ : ∃ I1, I1 = jup (jup (jup (jup I (148 + 2 * s) 0 (-1)) (148 + 2 * s) 1 (-1)) (148 + 2 * s) 2 0) (148 + 2 * s) 1 (nI (l + 1)) := ⟨_, rfl⟩
        have e0 : ∀ r, r ≠ 148 + 2 * s → I1 r = I r := fun r a => by rw [hI1]; simp only [jup_ne _ _ a]
        refine ⟨1, I1, jup I1 170 s (nI (10 + (l + 1))), ?_, ?_, cnt, mode, T, S, GG.mono (h.one (s := s) (fun r a b _ => by rw [jup_ne _ _ b, e0 r a]) hs (fun t ht => ⟨?_, ?_⟩) (fun _ _ _ _ _ => ⟨rfl, rfl⟩) (Or.inr (Or.inl ⟨l + 1, by omega, by omega, ?_, ?_, ?_, ?_⟩))) (by omega)⟩
        · unfold X6_show X3_holdRule X3_holdNothing
          rw [e1, ob_some, if_neg hn0, jlet_d, if_neg hy, if_neg hy, rR.1, q1, ob_some, if_neg (by decide), jlet_d, jlet_d, jlet_d, ob_some, jlet_d, ← hI1, ob_some]
        · unfold X7_show
          rw [e2, ob_some, if_neg (by decide), jlet_d, if_neg hy, if_neg hy, q2 I1 (e0 _ (by omega)), ob_some, if_neg (by decide), jlet_d, if_pos hj, jlet_d, rMM.2.2.1, cl_N (by omega), ten_e]
        · rw [jup_q, ju1_ne _ _ ht, e0 _ (by omega)]
        · rw [jup_ne _ _ (by omega), e0 _ (by omega)]
        · rw [jup_ne _ _ (by omega), hI1]; simp (disch := omega) only [jup_q, jup_ne, ju1_eq, ju1_ne]
        · rw [jup_ne _ _ (by omega), hI1]; simp (disch := omega) only [jup_q, jup_ne, ju1_eq, ju1_ne]
        · rw [jup_ne _ _ (by omega), hI1]; simp (disch := omega) only [jup_q, jup_ne, ju1_eq, ju1_ne]
        · rw [jup_q, ju1_eq]
end SHS
