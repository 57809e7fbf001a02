/-! SETTINGS, further -/
theorem n00 : nI 0 = (0 : Int32) := rfl
section SETS
variable {B cnt mode T : Nat} {S : Nat → Nat} {I : jI} {L : jL}
theorem t_tell (h : GG B cnt mode T S I L) (x v : Int32) : Two B L (X6_tell 1 x v) (X7_tell 164 x v) I := by
  obtain ⟨⟨f, -, c2, c3⟩, -, ⟨a, -, b2, b3⟩, -⟩ := h.1.2.2.2.2.2.2
  have ref : ∀ hx : X6_isWithin x 0 1 = some 0, Two B L (X6_tell 1 x v) (X7_tell 164 x v) I := fun hx =>
    Two.ref h 0 (by omega) (-52) rx0 (by unfold X6_tell; rw [hx, ob_some, if_pos rfl]; exact jb2_id _) (fun J _ => by unfold X7_tell; rw [within_e x 0 1 0 1 rfl rfl, hx, ob_some, if_pos rfl]; exact jb2_id _)
  rcases wi_c x 0 1 0 1 rfl rfl with hx | ⟨hx, n, -, hn, -, rfl⟩
  · exact ref hx
  obtain rfl | rfl : n = 0 ∨ n = 1 := by omega
  · rcases wi_c v 0 8 0 8 rfl rfl with hv | ⟨hv, k, -, hk, -, rfl⟩
    · exact Two.ref h 0 (by omega) (-52) rx0 (by unfold X6_tell; rw [hx, ob_some, if_neg (by decide), if_pos n00, jlet_d, hv, ob_some, if_pos rfl]; exact jb2_id _) (fun J _ => by unfold X7_tell; rw [within_e _ 0 1 0 1 rfl rfl, hx, ob_some, if_neg (by decide), if_pos n00, jlet_d, within_e v 0 8 0 8 rfl rfl, hv, ob_some, if_pos rfl]; exact jb2_id _)
    · refine ⟨I 2 6, jup I 2 6 (nI k), jrow (jup I 2 6 (nI k)) 165 (ju1 (I 165) 691 (nI k)), ?_, ?_, _, _, _, _, (h.row (h.1.ahead (by omega)) (Nat.le_refl _) (fun r hr => jup_ne _ _ (by omega)) (Nat.le_refl _)).mono (by omega)⟩
      · unfold X6_tell
        rw [hx, ob_some, if_neg (by decide), if_pos n00, jlet_d, hv, ob_some, if_neg (by decide), if_pos n00, rR.1, jlet_d, jlet_d]
      · unfold X7_tell
        rw [within_e _ 0 1 0 1 rfl rfl, hx, ob_some, if_neg (by decide), if_pos n00, jlet_d, within_e _ 0 8 0 8 rfl rfl, hv, ob_some, if_neg (by decide), if_pos (by decide), jlet_d, if_pos (by decide), jlet_d, rM0, show (((691 : Int32) + nI 0)).toNatClampNeg = 691 by decide, jup_ne _ _ (by omega), jup_def, jup_ne _ _ (by omega), b2, b3]
  · rcases wi_c v 0 999 0 999 rfl rfl with hv | ⟨hv, k, -, hk, -, rfl⟩
    · exact Two.ref h 0 (by omega) (-52) rx0 (by unfold X6_tell; rw [hx, ob_some, if_neg (by decide), if_neg (by decide), jlet_d, hv, ob_some, if_pos rfl]; exact jb2_id _) (fun J _ => by unfold X7_tell; rw [within_e _ 0 1 0 1 rfl rfl, hx, ob_some, if_neg (by decide), if_neg (by decide), jlet_d, within_e v 0 999 0 999 rfl rfl, hv, ob_some, if_pos rfl]; exact jb2_id _)
    · refine ⟨I 2 3, jup I 2 3 (nI k), jrow (jup I 2 3 (nI k)) 165 (ju1 (I 165) 692 (nI k)), ?_, ?_, _, _, _, _, (h.row (h.1.far (by omega)) (Nat.le_refl _) (fun r hr => jup_ne _ _ (by omega)) (Nat.le_refl _)).mono (by omega)⟩
      · unfold X6_tell
        rw [hx, ob_some, if_neg (by decide), if_neg (by decide), jlet_d, hv, ob_some, if_neg (by decide), if_neg (by decide), rR.1, jlet_d, jlet_d]
      · unfold X7_tell
        rw [within_e _ 0 1 0 1 rfl rfl, hx, ob_some, if_neg (by decide), if_neg (by decide), jlet_d, within_e _ 0 999 0 999 rfl rfl, hv, ob_some, if_neg (by decide), if_pos (by decide), jlet_d, if_pos (by decide), jlet_d, rM0, show (((691 : Int32) + nI 1)).toNatClampNeg = 692 by decide, jup_ne _ _ (by omega), jup_def, jup_ne _ _ (by omega), c2, c3]
theorem t_mode (h : GG B cnt mode T S I L) (x v : Int32) : Two B L (X6_mode 1 x v) (X7_mode 164 x v) I := by
  obtain ⟨I', m', s1, s2, s3, s4, s5⟩ := sweepOut_ST OB2 h.1
  rcases wi_c x 0 1 0 1 rfl rfl with hx | ⟨hx, n, -, hn, -, rfl⟩
  · exact Two.ref h 0 (by omega) (-52) rx0 (by unfold X6_mode; rw [hx, ob_some, if_pos rfl]; exact jb2_id _) (fun J _ => by unfold X7_mode; rw [within_e x 0 1 0 1 rfl rfl, hx, ob_some, if_pos rfl]; exact jb2_id _)
  obtain rfl | rfl : n = 0 ∨ n = 1 := by omega
  · rcases wi_c v 0 2 0 2 rfl rfl with hv | ⟨hv, k, -, hk, -, rfl⟩
    · exact Two.ref h 0 (by omega) (-52) rx0 (by unfold X6_mode; rw [hx, ob_some, if_neg (by decide), if_pos n00, jlet_d, hv, ob_some, if_pos rfl]; exact jb2_id _) (fun J _ => by unfold X7_mode; rw [within_e _ 0 1 0 1 rfl rfl, hx, ob_some, if_neg (by decide), if_pos n00, jlet_d, within_e v 0 2 0 2 rfl rfl, hv, ob_some, if_pos rfl]; exact jb2_id _)
    · refine ⟨nI mode, jup I' 2 4 (nI k), jrow (jup I' 2 4 (nI k)) 165 (ju1 m' 689 (nI k)), ?_, ?_, _, _, _, _, (h.row (s3.setMode s4 (by omega)) (Nat.le_refl _) (fun r hr => by rw [jup_ne _ _ (by omega), s5 r (by omega)]) (Nat.le_refl _)).mono (by omega)⟩
      · unfold X6_mode
        rw [hx, ob_some, if_neg (by decide), if_pos n00, jlet_d, hv, ob_some, if_neg (by decide), rR.1, s1, ob_some, if_pos n00, jlet_d, jlet_d, s3.2.1.2.2.1]
      · unfold X7_mode
        rw [within_e _ 0 1 0 1 rfl rfl, hx, ob_some, if_neg (by decide), if_pos n00, jlet_d, within_e _ 0 2 0 2 rfl rfl, hv, ob_some, if_neg (by decide), s2 _ ((jup_ne _ _ (by omega)).trans (s5 165 (by omega))), ob_some, if_pos (by decide), jlet_d, if_pos (by decide), jlet_d, rM0, show (((689 : Int32) + nI 0)).toNatClampNeg = 689 by decide, jrow_self, s3.2.1.2.2.2.1, jrow_jup]
  · rcases wi_c v 0 1 0 1 rfl rfl with hv | ⟨hv, k, -, hk, -, rfl⟩
    · exact Two.ref h 0 (by omega) (-52) rx0 (by unfold X6_mode; rw [hx, ob_some, if_neg (by decide), if_neg (by decide), jlet_d, hv, ob_some, if_pos rfl]; exact jb2_id _) (fun J _ => by unfold X7_mode; rw [within_e _ 0 1 0 1 rfl rfl, hx, ob_some, if_neg (by decide), if_neg (by decide), jlet_d, within_e v 0 1 0 1 rfl rfl, hv, ob_some, if_pos rfl]; exact jb2_id _)
    · have hk2 : nI k = 0 ∨ nI k = 1 := by
        obtain rfl | rfl : k = 0 ∨ k = 1 := by omega
        · exact Or.inl rfl
        · exact Or.inr rfl
      refine ⟨I' 2 5, jup I' 2 5 (nI k), jrow (jup I' 2 5 (nI k)) 165 (ju1 m' 690 (nI k)), ?_, ?_, _, _, _, _, (h.row (s3.wrs hk2) (Nat.le_refl _) (fun r hr => by rw [jup_ne _ _ (by omega), s5 r (by omega)]) (Nat.le_refl _)).mono (by omega)⟩
      · unfold X6_mode
        rw [hx, ob_some, if_neg (by decide), if_neg (by decide), jlet_d, hv, ob_some, if_neg (by decide), rR.1, s1, ob_some, if_neg (by decide), jlet_d, jlet_d]
      · unfold X7_mode
        rw [within_e _ 0 1 0 1 rfl rfl, hx, ob_some, if_neg (by decide), if_neg (by decide), jlet_d, within_e _ 0 1 0 1 rfl rfl, hv, ob_some, if_neg (by decide), s2 _ ((jup_ne _ _ (by omega)).trans (s5 165 (by omega))), ob_some, if_pos (by decide), jlet_d, if_pos (by decide), jlet_d, rM0, show (((689 : Int32) + nI 1)).toNatClampNeg = 690 by decide, jrow_self, jrow_jup, s3.2.2.2.2.2.2.2.1.1]
end SETS
