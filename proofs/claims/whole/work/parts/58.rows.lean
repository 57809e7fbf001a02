/-! ROWS: row, set, copy on both sides -/
theorem zeroC {c : Nat} (hc : rfC c 3 = c + 1) (I : jI) : ∀ d n k (L : jL), k + d = 40 → d < n → (∀ j, j < k → L (c + 1) j = 0) →
    ∃ L', jfx (X3_holdRow_F1 c I) (fun _ _ => none) n (nI k) L = some (I, L') ∧ (∀ r, r ≠ c + 1 → L' r = L r) ∧ ∀ j, j < 40 → L' (c + 1) j = 0 := by
  intro d
  induction d with
  | zero =>
    intro n k L h1 h2 h3
    obtain ⟨n, rfl⟩ : ∃ q, n = q + 1 := ⟨n - 1, by omega⟩
    refine ⟨L, ?_, fun _ _ => rfl, fun j hj => h3 j (by omega)⟩
    rw [jfx_s, X3_holdRow_F1, if_pos (lle (40 : Int32) 40 rfl (by omega) (by omega))]
  | succ d ih =>
    intro n k L h1 h2 h3
    obtain ⟨n, rfl⟩ : ∃ q, n = q + 1 := ⟨n - 1, by omega⟩
    obtain ⟨L', e1, e2, e3⟩ := ih n (k + 1) (jup L (c + 1) k 0) (by omega) (by omega) (fun j hj => by
      rw [jup_q]
      by_cases e : j = k
      · subst e; rw [ju1_eq]
      · rw [ju1_ne _ _ e]; exact h3 j (by omega))
    refine ⟨L', ?_, fun r hr => by rw [e2 r hr, jup_ne _ _ hr], e3⟩
    rw [jfx_s, X3_holdRow_F1, if_neg (lge (40 : Int32) 40 rfl (by omega) (by omega)), if_pos (jin_N (by omega) (by omega)), jlet_d, hc, cl_N (by omega), show nI k + (1 : Int32) = nI (k + 1) from nI_1 k]
    exact e1
theorem zeroM {s : Nat} (hs : s < 8) (I : jI) : ∀ d n k (L : jL), k + d = 40 → d < n → (∀ j, j < k → L 172 (40 * s + j) = 0) →
    ∃ L', jfx (X7_row_F1 164 (nI s) I) (fun _ _ => none) n (nI k) L = some (1, I, L') ∧ (∀ r j, (r ≠ 172 ∨ j < 40 * s ∨ 40 * s + 40 ≤ j) → L' r j = L r j) ∧ ∀ j, j < 40 → L' 172 (40 * s + j) = 0 := by
  intro d
  induction d with
  | zero =>
    intro n k L h1 h2 h3
    obtain ⟨n, rfl⟩ : ∃ q, n = q + 1 := ⟨n - 1, by omega⟩
    refine ⟨L, ?_, fun _ _ _ => rfl, fun j hj => h3 j (by omega)⟩
    rw [jfx_s, X7_row_F1, if_pos (lle (40 : Int32) 40 rfl (by omega) (by omega))]
  | succ d ih =>
    intro n k L h1 h2 h3
    obtain ⟨n, rfl⟩ : ∃ q, n = q + 1 := ⟨n - 1, by omega⟩
    obtain ⟨L', e1, e2, e3⟩ := ih n (k + 1) (jup L 172 (40 * s + k) 0) (by omega) (by omega) (fun j hj => by
      rw [jup_q]
      by_cases e : j = k
      · subst e; rw [ju1_eq]
      · rw [ju1_ne _ _ (by omega)]; exact h3 j (by omega))
    refine ⟨L', ?_, fun r j hr => by rw [e2 r j hr, jup_nj _ _ (by omega)], e3⟩
    rw [jfx_s, X7_row_F1, if_neg (lge (40 : Int32) 40 rfl (by omega) (by omega)), forty, if_pos (jin_N (by omega) (by omega)), jlet_d, rMM.2.2.2.2.1, cl_N (by omega), show nI k + (1 : Int32) = nI (k + 1) from nI_1 k]
    exact e1
def lowB (k : Nat) (v : Int64) : Int64 := if k = 0 then (((v).toInt32).toInt8.toInt32).toInt64 else (if k = 1 then (((v).toInt32).toInt16.toInt32).toInt64 else (if k = 2 then ((v).toInt32).toInt64 else (if k = 3 then v else (if (lg_cmp v (0 : Int64)) = 0 then (0 : Int64) else (1 : Int64)))))
theorem lowC {c k : Nat} (hk : k ≤ 4) {I : jI} (hI : I c 0 = nI k) (v : Int64) : X3_lowestBits c v I = some (lowB k v) := by
  unfold X3_lowestBits lowB
  rw [hI]
  obtain rfl | rfl | rfl | rfl | rfl : k = 0 ∨ k = 1 ∨ k = 2 ∨ k = 3 ∨ k = 4 := by omega
  · rw [if_pos (by decide), if_pos rfl]
  · rw [if_neg (by decide), if_pos (by decide), if_neg (by omega), if_pos rfl]
  · rw [if_neg (by decide), if_neg (by decide), if_pos (by decide), if_neg (by omega), if_neg (by omega), if_pos rfl]
  · rw [if_neg (by decide), if_neg (by decide), if_neg (by decide), if_pos (by decide), if_neg (by omega), if_neg (by omega), if_neg (by omega), if_pos rfl]
  · rw [if_neg (by decide), if_neg (by decide), if_neg (by decide), if_neg (by decide), if_pos (by decide), if_neg (show ¬ (4 : Nat) = 0 by omega), if_neg (show ¬ (4 : Nat) = 1 by omega), if_neg (show ¬ (4 : Nat) = 2 by omega), if_neg (show ¬ (4 : Nat) = 3 by omega)]
    split <;> rfl
theorem lowM {k : Nat} (hk : k ≤ 4) (v : Int64) : (if nI k = 0 then (((v).toInt32).toInt8.toInt32).toInt64 else (if nI k = (1 : Int32) then (((v).toInt32).toInt16.toInt32).toInt64 else (if nI k = (2 : Int32) then ((v).toInt32).toInt64 else (if nI k = (3 : Int32) then v else (if (lg_cmp v (0 : Int64)) = 0 then (0 : Int64) else (1 : Int64)))))) = lowB k v := by
  unfold lowB
  obtain rfl | rfl | rfl | rfl | rfl : k = 0 ∨ k = 1 ∨ k = 2 ∨ k = 3 ∨ k = 4 := by omega
  · rw [if_pos (by decide), if_pos rfl]
  · rw [if_neg (by decide), if_pos (by decide), if_neg (by omega), if_pos rfl]
  · rw [if_neg (by decide), if_neg (by decide), if_pos (by decide), if_neg (by omega), if_neg (by omega), if_pos rfl]
  · rw [if_neg (by decide), if_neg (by decide), if_neg (by decide), if_pos (by decide), if_neg (by omega), if_neg (by omega), if_neg (by omega), if_pos rfl]
  · rw [if_neg (by decide), if_neg (by decide), if_neg (by decide), if_neg (by decide), if_neg (show ¬ (4 : Nat) = 0 by omega), if_neg (show ¬ (4 : Nat) = 1 by omega), if_neg (show ¬ (4 : Nat) = 2 by omega), if_neg (show ¬ (4 : Nat) = 3 by omega)]
section SHS
variable {B cnt mode T : Nat} {S : Nat → Nat} {I : jI} {L : jL}
theorem t_row (h : GG B cnt mode T S I L) (x y z : Int32) : Three B (X6_row 1 x y z) (X7_row 164 x y z) I L := by
  rcases shelf_c x with ⟨e1, e2⟩ | ⟨s, hs, rfl, e1, e2⟩
  · exact Three.ref h 0 (by omega) (-52) rx0 (by unfold X6_row; rw [e1, ob_some, if_pos rfl]) (fun J _ => by unfold X7_row; rw [e2, ob_some, if_pos rfl])
  have hn0 : ¬ (148 + 2 * s = 0) := by omega
  have hj : jin (nI s) 8 := jin_N hs (by omega)
  rcases wi_c y 0 4 0 4 rfl rfl with hy | ⟨hy, k, -, hk, -, rfl⟩
  · exact Three.ref h 0 (by omega) (-52) rx0 (by unfold X6_row; rw [e1, ob_some, if_neg hn0, hy, ob_some, if_pos rfl]) (fun J _ => by unfold X7_row; rw [e2, ob_some, if_neg (by decide), within_e y 0 4 0 4 rfl rfl, hy, ob_some, if_pos rfl])
  rcases wi_c z 0 40 0 40 rfl rfl with hz | ⟨hz, n, -, hn, -, rfl⟩
  · exact Three.ref h 0 (by omega) (-52) rx0 (by unfold X6_row; rw [e1, ob_some, if_neg hn0, hy, ob_some, if_neg (by decide), hz, ob_some, if_pos rfl]) (fun J _ => by unfold X7_row; rw [e2, ob_some, if_neg (by decide), within_e _ 0 4 0 4 rfl rfl, hy, ob_some, if_neg (by decide), within_e z 0 40 0 40 rfl rfl, hz, ob_some, if_pos rfl])
  obtain ⟨I1, hI1⟩ : ∃ I1, I1 = jup (jup (jup (jup (jup I (148 + 2 * s) 0 (-1)) (148 + 2 * s) 1 (-1)) (148 + 2 * s) 2 0) (148 + 2 * s) 0 (nI k)) (148 + 2 * s) 2 (nI n) := ⟨_, rfl⟩
  have e0 : ∀ r, r ≠ 148 + 2 * s → I1 r = I r := fun r a => by rw [hI1]; simp only [jup_ne _ _ a]
  obtain ⟨I2, hI2⟩ : ∃ I2, I2 = jup (jup I1 170 s (nI k)) 171 s (nI n) := ⟨_, rfl⟩
  obtain ⟨L1, c1, c2, c3⟩ := zeroC (c := 148 + 2 * s) (by rw [(rS s hs).2]; omega) I1 40 1000 0 L (by omega) (by omega) (fun j hj => by omega)
  obtain ⟨L2, m1, m2, m3⟩ := zeroM hs I2 40 1000 0 L1 (by omega) (by omega) (fun j hj => by omega)
  refine ⟨1, I1, L1, I2, L2, ?_, ?_, cnt, mode, T, S, GG.mono (h.one (s := s) (fun r a b c => ?_) hs (fun t ht => ⟨?_, ?_⟩) (fun t i ht hts hi => ⟨?_, ?_⟩) (Or.inr (Or.inr ⟨k, n, by omega, by omega, ?_, ?_, ?_, ?_, ?_, fun i hi => ?_⟩))) (by omega)⟩
  · unfold X6_row X3_holdRow X3_holdNothing
    rw [e1, ob_some, if_neg hn0, hy, ob_some, if_neg (by decide), hz, ob_some, if_neg (by decide), jlet_d, jlet_d, jlet_d, ob_some, jlet_d, jlet_d, ← hI1]
    rw [show (jfx (X3_holdRow_F1 (148 + 2 * s) I1) (fun _ _ => none) 1000 (0 : Int32) L) = some (I1, L1) from c1, jb2_some]
  · unfold X7_row
    rw [e2, ob_some, if_neg (by decide), within_e _ 0 4 0 4 rfl rfl, hy, ob_some, if_neg (by decide), within_e _ 0 40 0 40 rfl rfl, hz, ob_some, if_neg (by decide), if_pos hj, jlet_d, if_pos hj, jlet_d, rMM.2.2.1, rMM.2.2.2.1, cl_N (by omega), ← hI2]
    exact m1
  · rw [hI2, jup_ne _ _ c, jup_ne _ _ b, e0 r a]
  · rw [hI2, jup_ne _ _ (by omega), jup_q, ju1_ne _ _ ht, e0 _ (by omega)]
  · rw [hI2, jup_q, ju1_ne _ _ ht, jup_ne _ _ (by omega), e0 _ (by omega)]
  · rw [m2 _ _ (by omega), c2 _ (by omega)]
  · rw [m2 _ _ (by omega), c2 _ (by omega)]
  · rw [hI2, jup_ne _ _ (by omega), jup_ne _ _ (by omega), hI1]; simp (disch := omega) only [jup_q, jup_ne, ju1_eq, ju1_ne]
  · rw [hI2, jup_ne _ _ (by omega), jup_ne _ _ (by omega), hI1]; simp (disch := omega) only [jup_q, jup_ne, ju1_eq, ju1_ne]
  · rw [hI2, jup_ne _ _ (by omega), jup_ne _ _ (by omega), hI1]; simp (disch := omega) only [jup_q, jup_ne, ju1_eq, ju1_ne]
  · rw [hI2, jup_ne _ _ (by omega), jup_q, ju1_eq]
  · rw [hI2, jup_q, ju1_eq]
  · rw [m3 i hi, m2 _ _ (by omega), show 149 + 2 * s = 148 + 2 * s + 1 by omega, c3 i hi]
theorem t_sets (h : GG B cnt mode T S I L) (x y : Int32) (v : Int64) : Three B (X6_set 1 x y v) (X7_set 164 x y v) I L := by
  have hc4 := h.1.1.1
  rcases shelf_c x with ⟨e1, e2⟩ | ⟨s, hs, rfl, e1, e2⟩
  · exact Three.ref h 0 (by omega) (-52) rx0 (by unfold X6_set; rw [e1, ob_some]; unfold X6_rowRefusal; rw [if_pos rfl, ob_some, if_neg (by decide)]) (fun J _ => by unfold X7_set; rw [e2, ob_some, jlet_d, if_pos rfl]; dsimp only; rw [jlet_d, if_neg (by decide), if_neg (by decide)])
  have hn0 : ¬ (148 + 2 * s = 0) := by omega
  have hj : jin (nI s) 8 := jin_N hs (by omega)
  rcases sh_c hs (h.2.1 s hs) hc4 with ⟨-, -, rr, am, -⟩ | ⟨l, -, -, -, rr, am, -⟩ | ⟨k, n, hk, hn, -, -, rr, am, sz, so, hh, hz, hel⟩
  · exact Three.ref h 2 (by omega) (-54) rx2 (by unfold X6_set; rw [e1, ob_some, rr, ob_some, if_neg (by decide)]) (fun J hJ => by unfold X7_set; rw [e2, ob_some, jlet_d, if_neg (by decide), am J (hJ _ (by omega)), ob_some]; dsimp only; rw [jlet_d, if_neg (by decide), if_neg (by decide)])
  · exact Three.ref h 1 (by omega) (-53) rx1 (by unfold X6_set; rw [e1, ob_some, rr, ob_some, if_neg (by decide)]) (fun J hJ => by unfold X7_set; rw [e2, ob_some, jlet_d, if_neg (by decide), am J (hJ _ (by omega)), ob_some]; dsimp only; rw [jlet_d, if_neg (by decide), if_neg (by decide)])
  rcases hasEl_c (s := s) hn sz y with ⟨q, q2⟩ | ⟨i, hi, rfl, q, q2⟩
  · exact Three.ref h 0 (by omega) (-52) rx0 (by unfold X6_set; rw [e1, ob_some, rr, ob_some, if_pos rfl, if_neg hn0, q, ob_some, if_pos rfl]) (fun J hJ => by unfold X7_set; rw [e2, ob_some, jlet_d, if_neg (by decide), am J (hJ _ (by omega)), ob_some]; dsimp only; rw [jlet_d, if_pos rfl, if_pos rfl, if_pos hj, rMM.2.2.2.1, cl_N (by omega), hJ 171 (by omega), hz, within_e y 0 _ 0 _ rfl rfl, q2, ob_some, if_pos rfl])
  · refine ⟨1, I, jup L (149 + 2 * s) i (lowB k v), I, jup (jup L (149 + 2 * s) i (lowB k v)) 172 (40 * s + i) (lowB k v), ?_, ?_, cnt, mode, T, S, GG.mono (h.one (s := s) (fun r _ _ _ => rfl) hs (fun t _ => ⟨rfl, rfl⟩) (fun t j ht hts hj => ⟨?_, ?_⟩) (Or.inr (Or.inr ⟨k, n, hk, hn, so, ?_, sz, hh, hz, fun j hj => ?_⟩))) (by omega)⟩
    · unfold X6_set X3_putElement
      rw [e1, ob_some, rr, ob_some, if_pos rfl, if_neg hn0, q, ob_some, if_neg (by decide), ob_some, if_neg (by decide), lowC hk so, ob_some, if_pos (jin_N (by omega) (by omega)), jlet_d, ob_some, (rS s hs).2, cl_N (by omega)]
    · unfold X7_set
      rw [e2, ob_some, jlet_d, if_neg (by decide), am I rfl, ob_some]
      dsimp only
      rw [jlet_d, if_pos rfl, if_pos hj, rMM.2.2.2.1, rMM.2.2.1, cl_N (by omega), hz, within_e _ 0 _ 0 _ rfl rfl, q2, ob_some, if_neg (by decide), if_pos hj, jlet_d, hh, lowM hk, jlet_d, forty, if_pos (jin_N (by omega) (by omega)), jlet_d, rMM.2.2.2.2.1, cl_N (by omega)]
    · rw [jup_ne _ _ (by omega), jup_ne _ _ (by omega)]
    · rw [jup_nj _ _ (by omega), jup_ne _ _ (by omega)]
    · rcases h.2.1 s hs with ⟨a1, -⟩ | ⟨l, -, -, a1, -⟩ | ⟨_, _, -, -, -, a4, -⟩
      · rw [so] at a1; exact absurd a1 (m1_ne (by omega))
      · rw [so] at a1; exact absurd a1 (m1_ne (by omega))
      · exact a4
    · rw [jup_ne _ _ (by omega), jup_q, jup_q, jup_ne _ _ (by omega)]
      by_cases e : j = i
      · subst e; rw [ju1_eq, ju1_eq]
      · rw [ju1_ne _ _ e, ju1_ne _ _ (by omega)]; exact hel j hj
end SHS
