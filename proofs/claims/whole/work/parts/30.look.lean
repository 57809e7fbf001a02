/-! LOOKING for a page from the nearest level on: the levels that don't have it -/
theorem jup_id {α : Type} (f : Nat → Nat → α) (r k : Nat) {v : α} (h : f r k = v) : jup f r k v = f := by
  subst h
  unfold jup
  have : ju1 (f r) k (f r k) = f r := by
    funext a
    by_cases e : a = k
    · subst e; rw [ju1_eq]
    · rw [ju1_ne _ _ e]
  rw [this, jrow_id]
theorem jrw1 (J : jI) (x m' : Mn) (a b : Int32) : jrow (jup (jup (jrow J 165 x) 164 5 a) 164 5 b) 165 m' = jrow (jup J 164 5 b) 165 m' := by
  funext r
  by_cases h1 : r = 165
  · subst h1; rw [jrow_self, jrow_self]
  · rw [jrow_ne _ _ h1, jrow_ne _ _ h1]
    by_cases h2 : r = 164
    · subst h2
      rw [jup_q, jup_q, jup_q]
      funext k
      by_cases h3 : k = 5
      · subst h3; rw [ju1_eq, ju1_eq]
      · rw [ju1_ne _ _ h3, ju1_ne _ _ h3, ju1_ne _ _ h3, jrow_ne _ _ (by omega)]
    · rw [jup_ne _ _ h2, jup_ne _ _ h2, jup_ne _ _ h2, jrow_ne _ _ h1]
theorem look_key {B o cnt p : Nat} (ho : OB o) (hc4 : cnt ≤ 4) (hp : p < 64) {S : Nat → Nat} : ∀ d n i acc (I : jI) (m : Mn), i + d = cnt → d < n → acc ≤ 99 * i → I o 1 = nI cnt → m 688 = nI cnt → (∀ j, j < cnt → LR B (o + 10 + 9 * j) I m j (S j)) →
    ∃ j acc' I' m', i ≤ j ∧ j ≤ cnt ∧ acc' ≤ 99 * j ∧ (∀ l, i ≤ l → l < j → fnd m l (S l) (nI p) = none) ∧ (j < cnt → ∃ k, fnd m j (S j) (nI p) = some k) ∧ (∀ l, l < cnt → LR B (o + 10 + 9 * l) I' m' l (S l)) ∧ (∀ r, (r < o + 10 ∨ o + 46 ≤ r) → I' r = I r) ∧ (∀ w, (∀ l, l < 4 → w ≠ 133 + 140 * l) → m' w = m w) ∧
      (∀ kC, jfx (X4_lookFor_F1 o (nI p) kC) (fun _ _ _ => none) n (nI acc) (nI (i + 1)) I = jfx (X4_lookFor_F1 o (nI p) kC) (fun _ _ _ => none) (n - (j - i)) (nI acc') (nI (j + 1)) I') ∧
      (∀ J : jI, J 165 = m → J 164 5 = nI acc → ∀ kM, jfx (X7_looks_F2 164 (nI p) kM) (fun _ _ => none) n (nI i) J = kM (nI j) (jrow (jup J 164 5 (nI acc')) 165 m')) := by
  intro d
  induction d with
  | zero =>
    intro n i acc I m h1 h2 h3 hcI hcm hL
    obtain ⟨n, rfl⟩ : ∃ q, n = q + 1 := ⟨n - 1, by omega⟩
    refine ⟨i, acc, I, m, Nat.le_refl _, by omega, h3, fun l a b => by omega, fun h => by omega, hL, fun _ _ => rfl, fun _ _ => rfl, fun kC => by rw [Nat.sub_self, Nat.sub_zero], fun J hJ hJ5 kM => ?_⟩
    rw [jfx_s, X7_looks_F2, if_pos (by decide), rM0, show ((688 : Int32)).toNatClampNeg = 688 from rfl, hJ, hcm, if_pos (nI_le (by omega) (by omega)), jup_id _ _ _ hJ5, ← hJ, jrow_id]
  | succ d ih =>
    intro n i acc I m h1 h2 h3 hcI hcm hL
    obtain ⟨n, rfl⟩ : ∃ q, n = q + 1 := ⟨n - 1, by omega⟩
    have hLi := hL i (by omega)
    have hb : LB (o + 10 + 9 * i) := LB_o ho (by omega)
    have hs := hLi.1.1
    cases hf : fnd m i (S i) (nI p) with
    | some k =>
      have hk := (fnd_some hf).1
      refine ⟨i, acc, I, m, Nat.le_refl _, by omega, h3, fun l a b => by omega, fun h => ⟨k, hf⟩, hL, fun _ _ => rfl, fun _ _ => rfl, fun kC => by rw [Nat.sub_self, Nat.sub_zero], fun J hJ hJ5 kM => ?_⟩
      rw [jfx_s, X7_looks_F2, if_pos (by decide), rM0, show ((688 : Int32)).toNatClampNeg = 688 from rfl, hJ, hcm, if_neg (nI_ge (by omega) (by omega)), found_e (by omega) hs.2 (by rw [hJ]; exact hLi.1.2.1.2), hJ, hf, ob_some, if_pos (show 0 ≤ oI (some k) from nI_pos' (by omega)), jup_id _ _ _ hJ5, ← hJ, jrow_id]
    | none =>
      obtain ⟨c, hc, hc1, hc2⟩ := hLi.1.2.2.1
      have hmis : I (o + 10 + 9 * i) 6 = m (133 + 140 * i) := hLi.1.2.2.2.2.2.2.2.1
      have hn := hLi.num (f := 6) (w := 5) (x := I (o + 10 + 9 * i) 6 + 1) (y := m (133 + 140 * i) + 1) (by omega) (by rw [hmis])
      rw [show 128 + 140 * i + 5 = 133 + 140 * i by omega] at hn
      obtain ⟨j, acc', I', m', e1, e2, e3, e4, e5, e6, e7, e8, e9, e10⟩ := ih n (i + 1) (acc + c) (jup I (o + 10 + 9 * i) 6 (I (o + 10 + 9 * i) 6 + 1)) (ju1 m (133 + 140 * i) (m (133 + 140 * i) + 1)) (by omega) (by omega) (by omega) (by rw [jup_ne _ _ (by omega)]; exact hcI) (by rw [ju1_ne _ _ (by omega)]; exact hcm) (fun l hl => by
        by_cases e : l = i
        · subst e; exact hn
        · exact (hL l hl).congr (fun r a b => jup_ne _ _ (by omega)) (fun w a b => ju1_ne _ _ (by omega)))
      have hfc : ∀ l, l < cnt → fnd (ju1 m (133 + 140 * i) (m (133 + 140 * i) + 1)) l (S l) (nI p) = fnd m l (S l) (nI p) := fun l hl => by
        have := (hL l hl).1.1
        unfold fnd
        exact ffr_congr (fun j _ hj => by rw [ju1_ne _ _ (by omega)])
      refine ⟨j, acc', I', m', by omega, e2, e3, fun l a b => ?_, fun h => ?_, e6, fun r hr => ?_, fun w hw => ?_, fun kC => ?_, fun J hJ hJ5 kM => ?_⟩
      · by_cases e : l = i
        · subst e; exact hf
        · rw [← hfc l (by omega)]; exact e4 l (by omega) b
      · rw [← hfc j h]; exact e5 h
      · rw [e7 r hr, jup_ne _ _ (by omega)]
      · rw [e8 w hw, ju1_ne _ _ (hw i (by omega))]
      · rw [show n + 1 - (j - i) = n - (j - (i + 1)) by omega, ← e9 kC, jfx_s, X4_lookFor_F1, hcI, if_neg (nI_nlt (by omega) (by omega)), levelAt_e ho I hcI hc4 (show i < cnt by omega), ob_some, jlet_d, if_neg hb.1, jlet_d, hLi.slotOf hb hp, hf, ob_some, if_pos (show oI none = (-1 : Int32) from rfl), jlet_d, hc1, nI_add, show nI (i + 1) + (1 : Int32) = nI (i + 1 + 1) from nI_1 _]
      · have hcr : jup J 165 (133 + 140 * i) (m (133 + 140 * i) + 1) = jrow J 165 (ju1 m (133 + 140 * i) (m (133 + 140 * i) + 1)) := by rw [jup_def, hJ]
        rw [jfx_s, X7_looks_F2, if_pos (by decide), rM0, show ((688 : Int32)).toNatClampNeg = 688 from rfl, hJ, hcm, if_neg (nI_ge (by omega) (by omega)), found_e (by omega) hs.2 (by rw [hJ]; exact hLi.1.2.1.2), hJ, hf, ob_some, if_neg (show ¬ 0 ≤ oI none by decide), at_e 5 i 5 rfl, ob_some, if_pos (jin_N (by omega) (by omega)), if_pos (jin_N (by omega) (by omega)), jlet_d, cl_N (by omega), show 128 + 140 * i + 5 = 133 + 140 * i by omega, hcr, of_e 1 i 1 rfl (by omega), ob_some, jrow_self, ju1_ne _ _ (by omega), show 128 + 140 * i + 1 = 129 + 140 * i by omega, hc2, jlet_d, jrow_ne _ _ (by omega), hJ5, nI_add, show nI i + (1 : Int32) = nI (i + 1) from nI_1 _]
        rw [e10 _ (by rw [jup_ne _ _ (by omega), jrow_self]) (by rw [jup_q, ju1_eq]) kM, jrw1]
