/-! SAYS: on both sides -/
theorem und_fin : ∀ k, k < 9 → 3 ≤ k → ∀ p, p < 9 → X7_isUnder (nI k) (nI p) = jfx (X6_isUnder_F1 (nI p)) (fun _ _ => none) 20 (nI k) 0 ∧ (X7_isUnder (nI k) (nI p) = some 0 ∨ X7_isUnder (nI k) (nI p) = some 1) := by decide +kernel
theorem jfx_mono2 {p1 : Int32} : ∀ n m (v1 v2 : Int32) (r : Int32), n ≤ m → jfx (X6_isUnder_F1 p1) (fun _ _ => none) n v1 v2 = some r → jfx (X6_isUnder_F1 p1) (fun _ _ => none) m v1 v2 = some r := by
  intro n
  induction n with
  | zero => intro m v1 v2 r _ h; cases h
  | succ n ih =>
    intro m v1 v2 r hm h
    obtain ⟨m, rfl⟩ : ∃ q, m = q + 1 := ⟨m - 1, by omega⟩
    rw [jfx_s, X6_isUnder_F1] at h ⊢
    by_cases c1 : (9 : Int32) ≤ v2
    · rw [if_pos c1] at h ⊢; exact h
    · rw [if_neg c1] at h ⊢
      cases hw : X6_isWithin v1 (0 : Int32) ((9 : Int32) - (1 : Int32)) with
      | none => rw [hw] at h; cases h
      | some y =>
        rw [hw, ob_some] at h
        rw [ob_some]
        by_cases c2 : y = 0
        · rw [if_pos c2] at h ⊢; exact h
        · rw [if_neg c2] at h ⊢
          by_cases c3 : v1 = p1
          · rw [if_pos c3] at h ⊢; exact h
          · rw [if_neg c3] at h ⊢
            by_cases c4 : jin v1 9
            · rw [if_pos c4, jlet_d] at h ⊢
              exact ih m _ _ r (by omega) h
            · rw [if_neg c4] at h; cases h
theorem under_e {k p : Nat} (hk : k < 9) (h3 : 3 ≤ k) (hp : p < 9) (I : jI) : (X6_isUnder (nI k) (nI p) I = some 0 ∧ X7_isUnder (nI k) (nI p) = some 0) ∨ (X6_isUnder (nI k) (nI p) I = some 1 ∧ X7_isUnder (nI k) (nI p) = some 1) := by
  obtain ⟨a, b⟩ := und_fin k hk h3 p hp
  unfold X6_isUnder
  rcases b with b | b
  · exact Or.inl ⟨jfx_mono2 20 1000 _ _ _ (by omega) (a ▸ b), b⟩
  · exact Or.inr ⟨jfx_mono2 20 1000 _ _ _ (by omega) (a ▸ b), b⟩
section SY
variable {B b l s : Nat} {I : jI} {m : Mn}
def AC (B : Nat) (a : Int32) : Prop := a = -1 ∨ ∃ y, y ≤ B ∧ a = nI y
/-- the greatest and the least note, on both sides -/
theorem great_e (hL : LR B b I m l s) (hb : LB b) (hl : l < 4) (hB : B < 1073741824) {r w : Nat} (hw : w < 7) (hN : ∀ k, k < 16 → ¬ m (140 + 140 * l + 7 * k) = -1 → ∃ x, x ≤ B ∧ I r k = nI x ∧ m (140 + 140 * l + 7 * k + w) = nI x) {J : jI} (hJ : J 165 = m) (p1 : Int32) (hp1 : p1 = nI w) : ∀ d n k (a : Int32), AC B a → k + d = s → d < n → ∃ v, jfx (X2_greatestOf_F1 b r I) (fun _ _ => none) n a (nI k) = some v ∧ jfx (X7_extreme_F1 164 (nI l) p1 1 J) (fun _ _ => none) n a (nI k) = some v := by
  have hs := hL.1.1
  have hof : X7_of 164 (nI l) 0 J = some (nI s) := by rw [of_e 0 l 0 rfl (by omega), Nat.add_zero, hJ, hL.1.2.1.2]
  have hnt : ∀ k, k < 16 → X7_note 164 (nI l) (nI k) 0 J = some (m (140 + 140 * l + 7 * k)) := fun k hk => by rw [note_e 0 l k 0 rfl (by omega), Nat.add_zero, hJ]
  intro d
  induction d with
  | zero =>
    intro n k a ha h1 h2
    obtain ⟨n, rfl⟩ : ∃ q, n = q + 1 := ⟨n - 1, by omega⟩
    refine ⟨a, ?_, ?_⟩
    · rw [jfx_s, X2_greatestOf_F1, hL.1.2.1.1, if_pos (nI_le (by omega) (by omega))]
    · rw [jfx_s, X7_extreme_F1, hof, ob_some, if_pos (nI_le (by omega) (by omega))]
  | succ d ih =>
    intro n k a ha h1 h2
    obtain ⟨n, rfl⟩ : ∃ q, n = q + 1 := ⟨n - 1, by omega⟩
    have hj : jin (nI k) 16 := jin_N (by omega) (by omega)
    by_cases e : m (140 + 140 * l + 7 * k) = -1
    · obtain ⟨v, i1, i2⟩ := ih n (k + 1) a ha (by omega) (by omega)
      refine ⟨v, ?_, ?_⟩
      · rw [jfx_s, X2_greatestOf_F1, hL.1.2.1.1, if_neg (nI_ge (by omega) (by omega)), if_neg (lge (16 : Int32) 16 rfl (by omega) (by omega)), pageIn_e hb (by omega), ob_some, jlet_d, show nI k + (1 : Int32) = nI (k + 1) from nI_1 _, (hL.2.1 k (by omega)).1, if_pos e]
        exact i1
      · rw [jfx_s, X7_extreme_F1, hof, ob_some, if_neg (nI_ge (by omega) (by omega)), hnt k (by omega), ob_some, jlet_d, show nI k + (1 : Int32) = nI (k + 1) from nI_1 _, e, if_pos (by decide)]
        exact i2
    · obtain ⟨p, hp, hpg, -⟩ := hL.page (show k < 16 by omega) e
      obtain ⟨x, hx, x1, x2⟩ := hN k (by omega) e
      have key : ∃ y, y ≤ B ∧ jmax a (nI x) = nI y ∧ (if a < 0 then nI x else (if ((1 : Int32) * (nI x - a)) ≤ 0 then a else nI x)) = nI y := by
        rcases ha with rfl | ⟨y, hy, rfl⟩
        · refine ⟨x, hx, ?_, if_pos (by decide)⟩
          unfold jmax
          rw [if_pos (by rw [Int32.lt_iff_toInt_lt, nI_toInt (by omega), show (-1 : Int32).toInt = -1 from by decide]; omega)]
        · unfold jmax
          rw [if_neg (nI_pos (show y < 2147483648 by omega)), Int32.one_mul]
          by_cases c : y < x
          · refine ⟨x, hx, if_pos (nI_lt c (by omega)), if_neg ?_⟩
            rw [subN (by omega)]
            exact fun z => by rw [le0_N (by omega)] at z; omega
          · refine ⟨y, hy, if_neg (nI_nlt (by omega) (by omega)), if_pos ?_⟩
            rw [Int32.le_iff_toInt_le, Int32.toInt_sub, nI_toInt (by omega), nI_toInt (by omega)]
            unfold Int.bmod
            simp only [Int32.size]
            rw [show (0 : Int32).toInt = 0 from rfl]
            split <;> omega
      obtain ⟨y, hy, y1, y2⟩ := key
      obtain ⟨v, i1, i2⟩ := ih n (k + 1) (nI y) (Or.inr ⟨y, hy, rfl⟩) (by omega) (by omega)
      refine ⟨v, ?_, ?_⟩
      · rw [jfx_s, X2_greatestOf_F1, hL.1.2.1.1, if_neg (nI_ge (by omega) (by omega)), if_neg (lge (16 : Int32) 16 rfl (by omega) (by omega)), pageIn_e hb (by omega), ob_some, jlet_d, show nI k + (1 : Int32) = nI (k + 1) from nI_1 _, (hL.2.1 k (by omega)).1, if_neg e, if_pos hj, jlet_d, cl_N (by omega), x1, y1]
        exact i1
      · rw [jfx_s, X7_extreme_F1, hof, ob_some, if_neg (nI_ge (by omega) (by omega)), hnt k (by omega), ob_some, jlet_d, show nI k + (1 : Int32) = nI (k + 1) from nI_1 _, hpg, if_neg (nI_pos (show p < 2147483648 by omega)), note_e p1 l k w hp1 (by omega), ob_some, jlet_d, hJ, x2, y2]
        exact i2
theorem m1mul (x : Int32) : (-1 : Int32) * x = -x := by
  rw [Int32.neg_mul, Int32.one_mul]
theorem least_e (hL : LR B b I m l s) (hb : LB b) (hl : l < 4) (hB : B < 1073741824) {r w : Nat} (hw : w < 7) (hN : ∀ k, k < 16 → ¬ m (140 + 140 * l + 7 * k) = -1 → ∃ x, x ≤ B ∧ I r k = nI x ∧ m (140 + 140 * l + 7 * k + w) = nI x) {J : jI} (hJ : J 165 = m) (p1 : Int32) (hp1 : p1 = nI w) : ∀ d n k (a : Int32), AC B a → k + d = s → d < n → ∃ v, jfx (X2_leastOf_F1 b r I) (fun _ _ => none) n a (nI k) = some v ∧ jfx (X7_extreme_F1 164 (nI l) p1 (-1) J) (fun _ _ => none) n a (nI k) = some v := by
  have hs := hL.1.1
  have hof : X7_of 164 (nI l) 0 J = some (nI s) := by rw [of_e 0 l 0 rfl (by omega), Nat.add_zero, hJ, hL.1.2.1.2]
  have hnt : ∀ k, k < 16 → X7_note 164 (nI l) (nI k) 0 J = some (m (140 + 140 * l + 7 * k)) := fun k hk => by rw [note_e 0 l k 0 rfl (by omega), Nat.add_zero, hJ]
  intro d
  induction d with
  | zero =>
    intro n k a ha h1 h2
    obtain ⟨n, rfl⟩ : ∃ q, n = q + 1 := ⟨n - 1, by omega⟩
    refine ⟨a, ?_, ?_⟩
    · rw [jfx_s, X2_leastOf_F1, hL.1.2.1.1, if_pos (nI_le (by omega) (by omega))]
    · rw [jfx_s, X7_extreme_F1, hof, ob_some, if_pos (nI_le (by omega) (by omega))]
  | succ d ih =>
    intro n k a ha h1 h2
    obtain ⟨n, rfl⟩ : ∃ q, n = q + 1 := ⟨n - 1, by omega⟩
    have hj : jin (nI k) 16 := jin_N (by omega) (by omega)
    by_cases e : m (140 + 140 * l + 7 * k) = -1
    · obtain ⟨v, i1, i2⟩ := ih n (k + 1) a ha (by omega) (by omega)
      refine ⟨v, ?_, ?_⟩
      · rw [jfx_s, X2_leastOf_F1, hL.1.2.1.1, if_neg (nI_ge (by omega) (by omega)), if_neg (lge (16 : Int32) 16 rfl (by omega) (by omega)), pageIn_e hb (by omega), ob_some, jlet_d, show nI k + (1 : Int32) = nI (k + 1) from nI_1 _, (hL.2.1 k (by omega)).1, if_pos e]
        exact i1
      · rw [jfx_s, X7_extreme_F1, hof, ob_some, if_neg (nI_ge (by omega) (by omega)), hnt k (by omega), ob_some, jlet_d, show nI k + (1 : Int32) = nI (k + 1) from nI_1 _, e, if_pos (by decide)]
        exact i2
    · obtain ⟨p, hp, hpg, -⟩ := hL.page (show k < 16 by omega) e
      obtain ⟨x, hx, x1, x2⟩ := hN k (by omega) e
      have key : ∃ y, y ≤ B ∧ (if a = -1 then nI x else (if a ≤ nI x then a else nI x)) = nI y ∧ (if a < 0 then nI x else (if ((-1 : Int32) * (nI x - a)) ≤ 0 then a else nI x)) = nI y := by
        rcases ha with rfl | ⟨y, hy, rfl⟩
        · exact ⟨x, hx, if_pos rfl, if_pos (by decide)⟩
        · rw [if_neg (nI_pos (show y < 2147483648 by omega)), if_neg (m1_ne (by omega)), m1mul]
          by_cases c : y ≤ x
          · refine ⟨y, hy, if_pos (nI_le c (by omega)), if_pos ?_⟩
            rw [subN c, Int32.le_iff_toInt_le, Int32.toInt_neg, nI_toInt (by omega)]
            unfold Int.bmod
            simp only [Int32.size]
            rw [show (0 : Int32).toInt = 0 from rfl]
            split <;> omega
          · refine ⟨x, hx, if_neg (nI_ge (by omega) (by omega)), if_neg ?_⟩
            rw [Int32.neg_sub, subN (by omega)]
            exact fun z => by rw [le0_N (by omega)] at z; omega
      obtain ⟨y, hy, y1, y2⟩ := key
      obtain ⟨v, i1, i2⟩ := ih n (k + 1) (nI y) (Or.inr ⟨y, hy, rfl⟩) (by omega) (by omega)
      refine ⟨v, ?_, ?_⟩
      · rw [jfx_s, X2_leastOf_F1, hL.1.2.1.1, if_neg (nI_ge (by omega) (by omega)), if_neg (lge (16 : Int32) 16 rfl (by omega) (by omega)), pageIn_e hb (by omega), ob_some, jlet_d, show nI k + (1 : Int32) = nI (k + 1) from nI_1 _, (hL.2.1 k (by omega)).1, if_neg e, jlet_d, if_pos hj, if_pos hj, jlet_d, cl_N (by omega), x1]
        by_cases a1 : a = -1
        · rw [if_pos a1] at y1 ⊢
          rw [y1]; exact i1
        · rw [if_neg a1] at y1 ⊢
          by_cases a2 : a ≤ nI x
          · rw [if_pos a2] at y1 ⊢
            rw [y1]; exact i1
          · rw [if_neg a2] at y1 ⊢
            rw [y1]; exact i1
      · rw [jfx_s, X7_extreme_F1, hof, ob_some, if_neg (nI_ge (by omega) (by omega)), hnt k (by omega), ob_some, jlet_d, show nI k + (1 : Int32) = nI (k + 1) from nI_1 _, hpg, if_neg (nI_pos (show p < 2147483648 by omega)), note_e p1 l k w hp1 (by omega), ob_some, jlet_d, hJ, x2, y2]
        exact i2
end SY
section SY2
variable {B cnt mode T : Nat} {S : Nat → Nat} {I : jI} {L : jL}
theorem t_says (h : GG B cnt mode T S I L) (hB : B + 32768 < 1073741824) (x y : Int32) : Two B L (X6_says 1 x y) (X7_says 164 x y) I := by
  have hc4 := h.1.1.1
  rcases shelf_c x with ⟨e1, e2⟩ | ⟨s, hs, rfl, e1, e2⟩
  · exact Two.ref h 0 (by omega) (-52) rx0 (by unfold X6_says; rw [e1, ob_some, if_pos rfl]; exact jb2_id _) (fun J _ => by unfold X7_says; rw [e2, ob_some, if_pos rfl]; exact jb2_id _)
  have hn0 : ¬ (148 + 2 * s = 0) := by omega
  have hj : jin (nI s) 8 := jin_N hs (by omega)
  rcases wi_c y 0 8 0 8 rfl rfl with hy | ⟨hy, w, -, hw, -, rfl⟩
  · exact Two.ref h 0 (by omega) (-52) rx0 (by unfold X6_says; rw [e1, ob_some, if_neg hn0, hy, ob_some, if_pos rfl]; exact jb2_id _) (fun J _ => by unfold X7_says; rw [e2, ob_some, if_neg (by decide), within_e y 0 8 0 8 rfl rfl, hy, ob_some, if_pos rfl]; exact jb2_id _)
  rcases sh_c hs (h.2.1 s hs) hc4 with ⟨r1, -, -, -, -, s1, hh⟩ | ⟨l, hl, r1, -, -, -, -, s1, hh⟩ | ⟨k, n, hk, hn, r1, -, -, -, sz, so, hh, -⟩
  · refine Two.ref h 2 (by omega) (-54) rx2 ?_ (fun J hJ => ?_)
    · unfold X6_says X4_levelAt
      rw [e1, ob_some, if_neg hn0, hy, ob_some, if_neg (by decide), r1, ob_some, if_pos rfl, s1, if_pos (by decide), ob_some, if_pos rfl]
      exact jb2_id _
    · unfold X7_says
      rw [e2, ob_some, if_neg (by decide), within_e _ 0 8 0 8 rfl rfl, hy, ob_some, if_neg (by decide), if_pos hj, rMM.2.2.1, cl_N (by omega), hJ 170 (by omega), hh, within_e (-1) 0 4 0 4 rfl rfl, show X6_isWithin (-1) 0 4 = some 0 from rfl, ob_some, if_pos rfl, if_pos hj, if_neg (by decide)]
      exact jb2_id _
  · have hL := h.1.2.2.1 l hl
    have hb := LB_o OB2 (show l < 4 by omega)
    obtain ⟨-, ⟨a2, a2'⟩, -, ⟨kk, hkk, a4, a4'⟩, ⟨hd, hhd, g3, g3'⟩, g4, -⟩ := hL.1
    have eq1 : X6_isWithin (nI (10 + (l + 1))) 0 4 = some 0 := by
      rw [wi_e, if_neg (fun z => by have := z.2; rw [Int32.le_iff_toInt_le, nI_toInt (by omega), show (4 : Int32).toInt = 4 from rfl] at this; omega)]
    have hof2 : ∀ J : jI, J 165 = I 165 → X7_of 164 (nI l) 2 J = some (nI kk) := fun J hJ => by
      rw [of_e 2 l 2 rfl (by omega), hJ, show 128 + 140 * l + 2 = 130 + 140 * l by omega, a4']
    rcases under_e (k := kk) (p := w) (by omega) hkk.1 (by omega) I with ⟨u1, u2⟩ | ⟨u1, u2⟩
    · refine Two.ref h 1 (by omega) (-53) rx1 ?_ (fun J hJ => ?_)
      · unfold X6_says
        rw [e1, ob_some, if_neg hn0, hy, ob_some, if_neg (by decide), r1, ob_some, if_pos rfl, rR.1, s1, levelAt_e OB2 I h.1.2.1.1 hc4 hl, ob_some, if_neg hb.1, a4, u1, ob_some, if_pos rfl]
        exact jb2_id _
      · unfold X7_says
        rw [e2, ob_some, if_neg (by decide), within_e _ 0 8 0 8 rfl rfl, hy, ob_some, if_neg (by decide), if_pos hj, rMM.2.2.1, cl_N (by omega), hJ 170 (by omega), hh, within_e _ 0 4 0 4 rfl rfl, eq1, ob_some, if_pos rfl, if_pos hj, if_pos (nI_pos' (by omega)), if_pos hj, m11_e, jlet_d, hof2 J (hJ _ (by omega)), ob_some, u2, ob_some, if_pos rfl]
        exact jb2_id _
    · have fin : ∀ v, X2_saysAs (2 + 10 + 9 * l) (nI w) I = some v → (if nI w = (0 : Int32) then (
(X7_of 164 (nI l) (2 : Int32) I).bind (fun (y24 : Int32) =>
some (y24, I)))
else if nI w = (1 : Int32) then (
(X7_noted 164 (nI l) I).bind (fun (y27 : Int32) =>
some (y27, I)))
else if nI w = (2 : Int32) then (
(X7_of 164 (nI l) (0 : Int32) I).bind (fun (y30 : Int32) =>
some (y30, I)))
else if nI w = (3 : Int32) then (
(X7_extreme 164 (nI l) (3 : Int32) (1 : Int32) I).bind (fun (y33 : Int32) =>
some (y33, I)))
else if nI w = (4 : Int32) then (
(X7_extreme 164 (nI l) (4 : Int32) (-1 : Int32) I).bind (fun (y36 : Int32) =>
some (y36, I)))
else if nI w = (5 : Int32) then (
(X7_extreme 164 (nI l) (4 : Int32) (1 : Int32) I).bind (fun (y39 : Int32) =>
some (y39, I)))
else if nI w = (6 : Int32) then (
(X7_extreme 164 (nI l) (5 : Int32) (-1 : Int32) I).bind (fun (y42 : Int32) =>
some (y42, I)))
else if nI w = (7 : Int32) then (
(X7_of 164 (nI l) (3 : Int32) I).bind (fun (y45 : Int32) =>
some (y45, I)))
else (
(X7_of 164 (nI l) (9 : Int32) I).bind (fun (y47 : Int32) =>
some (y47, I)))) = some (v, I) → Two B L (X6_says 1 (nI s) (nI w)) (X7_says 164 (nI s) (nI w)) I := fun v z1 z2 => by
        refine Two.same h v ?_ ?_
        · unfold X6_says
          rw [e1, ob_some, if_neg hn0, hy, ob_some, if_neg (by decide), r1, ob_some, if_pos rfl, rR.1, s1, levelAt_e OB2 I h.1.2.1.1 hc4 hl, ob_some, if_neg hb.1, a4, u1, ob_some, if_neg (by decide), z1, ob_some]
        · unfold X7_says
          rw [e2, ob_some, if_neg (by decide), within_e _ 0 8 0 8 rfl rfl, hy, ob_some, if_neg (by decide), if_pos hj, rMM.2.2.1, cl_N (by omega), hh, within_e _ 0 4 0 4 rfl rfl, eq1, ob_some, if_pos rfl, if_pos hj, if_pos (nI_pos' (by omega)), if_pos hj, m11_e, jlet_d, hof2 I rfl, ob_some, u2, ob_some, if_neg (by decide)]
          exact (hof2 I rfl ▸ z2)
      have n3 : ∀ k, k < 16 → ¬ I 165 (140 + 140 * l + 7 * k) = -1 → ∃ x, x ≤ B ∧ I (2 + 10 + 9 * l + 4) k = nI x ∧ I 165 (140 + 140 * l + 7 * k + 3) = nI x := fun k hk hn => (hL.notes hk hn).1
      have n4 : ∀ k, k < 16 → ¬ I 165 (140 + 140 * l + 7 * k) = -1 → ∃ x, x ≤ B ∧ I (2 + 10 + 9 * l + 5) k = nI x ∧ I 165 (140 + 140 * l + 7 * k + 4) = nI x := fun k hk hn => (hL.notes hk hn).2.1
      have n5 : ∀ k, k < 16 → ¬ I 165 (140 + 140 * l + 7 * k) = -1 → ∃ x, x ≤ B ∧ I (2 + 10 + 9 * l + 6) k = nI x ∧ I 165 (140 + 140 * l + 7 * k + 5) = nI x := fun k hk hn => (hL.notes hk hn).2.2.1
      have hs2 := hL.1.1
      obtain ⟨v3, p3, q3⟩ := great_e hL hb (by omega) (by omega) (w := 3) (by omega) n3 (J := I) rfl 3 rfl (S l) 1000 0 (-1) (Or.inl rfl) (by omega) (by omega)
      obtain ⟨v4, p4, q4⟩ := least_e hL hb (by omega) (by omega) (w := 4) (by omega) n4 (J := I) rfl 4 rfl (S l) 1000 0 (-1) (Or.inl rfl) (by omega) (by omega)
      obtain ⟨v5, p5, q5⟩ := great_e hL hb (by omega) (by omega) (w := 4) (by omega) n4 (J := I) rfl 4 rfl (S l) 1000 0 (-1) (Or.inl rfl) (by omega) (by omega)
      obtain ⟨v6, p6, q6⟩ := least_e hL hb (by omega) (by omega) (w := 5) (by omega) n5 (J := I) rfl 5 rfl (S l) 1000 0 (-1) (Or.inl rfl) (by omega) (by omega)
      have p3' : X2_greatestOf (2 + 10 + 9 * l) (2 + 10 + 9 * l + 4) I = some v3 := p3
      have p4' : X2_leastOf (2 + 10 + 9 * l) (2 + 10 + 9 * l + 5) I = some v4 := p4
      have p5' : X2_greatestOf (2 + 10 + 9 * l) (2 + 10 + 9 * l + 5) I = some v5 := p5
      have p6' : X2_leastOf (2 + 10 + 9 * l) (2 + 10 + 9 * l + 6) I = some v6 := p6
      have q3' : X7_extreme 164 (nI l) 3 1 I = some v3 := q3
      have q4' : X7_extreme 164 (nI l) 4 (-1) I = some v4 := q4
      have q5' : X7_extreme 164 (nI l) 4 1 I = some v5 := q5
      have q6' : X7_extreme 164 (nI l) 5 (-1) I = some v6 := q6
      obtain ⟨-, hb1, hb2, hb3, hb4, hb5, hb6, hb7, hb8⟩ := id hb
      unfold X2_saysAs at fin
      rw [hb4, hb5, hb6, p3', p4', p5', p6', q3', q4', q5', q6', ob_some, ob_some, ob_some, ob_some, ob_some, ob_some, ob_some, ob_some] at fin
      obtain rfl | rfl | rfl | rfl | rfl | rfl | rfl | rfl | rfl : w = 0 ∨ w = 1 ∨ w = 2 ∨ w = 3 ∨ w = 4 ∨ w = 5 ∨ w = 6 ∨ w = 7 ∨ w = 8 := by omega
      · exact fin (nI kk) (by rw [if_pos (by decide), a4]) (by rw [if_pos (by decide), hof2 I rfl, ob_some])
      · exact fin _ (by rw [if_neg (by decide), if_pos (by decide), hL.noted hb (by omega) a4 hkk, ob_some]) (by rw [if_neg (by decide), if_pos (by decide), hL.notedM (by omega) (by omega) a4' hkk rfl, ob_some])
      · exact fin (nI (S l)) (by rw [if_neg (by decide), if_neg (by decide), if_pos (by decide), a2]) (by rw [if_neg (by decide), if_neg (by decide), if_pos (by decide), of_e 0 l 0 rfl (by omega), ob_some, Nat.add_zero, a2'])
      · exact fin v3 (by rw [if_neg (by decide), if_neg (by decide), if_neg (by decide), if_pos (by decide)]) (by rw [if_neg (by decide), if_neg (by decide), if_neg (by decide), if_pos (by decide)])
      · exact fin v4 (by rw [if_neg (by decide), if_neg (by decide), if_neg (by decide), if_neg (by decide), if_pos (by decide)]) (by rw [if_neg (by decide), if_neg (by decide), if_neg (by decide), if_neg (by decide), if_pos (by decide)])
      · exact fin v5 (by rw [if_neg (by decide), if_neg (by decide), if_neg (by decide), if_neg (by decide), if_neg (by decide), if_pos (by decide)]) (by rw [if_neg (by decide), if_neg (by decide), if_neg (by decide), if_neg (by decide), if_neg (by decide), if_pos (by decide)])
      · exact fin v6 (by rw [if_neg (by decide), if_neg (by decide), if_neg (by decide), if_neg (by decide), if_neg (by decide), if_neg (by decide), if_pos (by decide)]) (by rw [if_neg (by decide), if_neg (by decide), if_neg (by decide), if_neg (by decide), if_neg (by decide), if_neg (by decide), if_pos (by decide)])
      · exact fin (nI hd) (by rw [if_neg (by decide), if_neg (by decide), if_neg (by decide), if_neg (by decide), if_neg (by decide), if_neg (by decide), if_neg (by decide), if_pos (by decide), g3]) (by rw [if_neg (by decide), if_neg (by decide), if_neg (by decide), if_neg (by decide), if_neg (by decide), if_neg (by decide), if_neg (by decide), if_pos (by decide), of_e 3 l 3 rfl (by omega), ob_some, show 128 + 140 * l + 3 = 131 + 140 * l by omega, g3'])
      · exact fin (I 165 (137 + 140 * l)) (by rw [if_neg (by decide), if_neg (by decide), if_neg (by decide), if_neg (by decide), if_neg (by decide), if_neg (by decide), if_neg (by decide), if_neg (by decide), g4]) (by rw [if_neg (by decide), if_neg (by decide), if_neg (by decide), if_neg (by decide), if_neg (by decide), if_neg (by decide), if_neg (by decide), if_neg (by decide), of_e 9 l 9 rfl (by omega), ob_some, show 128 + 140 * l + 9 = 137 + 140 * l by omega])
  · refine Two.ref h 1 (by omega) (-53) rx1 ?_ (fun J hJ => ?_)
    · unfold X6_says
      rw [e1, ob_some, if_neg hn0, hy, ob_some, if_neg (by decide), r1, ob_some, if_neg (by decide)]
      exact jb2_id _
    · unfold X7_says
      rw [e2, ob_some, if_neg (by decide), within_e _ 0 8 0 8 rfl rfl, hy, ob_some, if_neg (by decide), if_pos hj, rMM.2.2.1, cl_N (by omega), hJ 170 (by omega), hh, within_e _ 0 4 0 4 rfl rfl, wi_y (nI k) 0 4 rfl (by omega) (by rw [show (0 : Int32).toInt = 0 from rfl]; omega) (by rw [show (4 : Int32).toInt = 4 from rfl]; omega), ob_some, if_neg (by decide)]
      exact jb2_id _
end SY2
