/-! ASKED: value, where, levelOf, status on both sides -/
theorem oI_c {x : Option Nat} (h : ∀ k, x = some k → k < 16) : (x = none ∧ oI x = -1) ∨ ∃ k, x = some k ∧ k < 16 ∧ oI x = nI k := by
  cases x with
  | none => exact Or.inl ⟨rfl, rfl⟩
  | some k => exact Or.inr ⟨k, rfl, h k rfl, rfl⟩
section ASK
variable {B cnt mode T : Nat} {S : Nat → Nat} {I : jI} {L : jL}
theorem found_G (h : GG B cnt mode T S I L) {l : Nat} (hl : l < cnt) (p : Int32) (J : jI) (hJ : J 165 = I 165) : X7_found 164 (nI l) p J = some (oI (fnd (I 165) l (S l) p)) := by
  have hL := h.1.2.2.1 l hl
  have hc4 := h.1.1.1
  rw [found_e (s := S l) (by omega) hL.1.1.2 (by rw [hJ]; exact hL.1.2.1.2), hJ]
theorem fnd16 (h : GG B cnt mode T S I L) {l : Nat} (hl : l < cnt) (p : Int32) : ∀ k, fnd (I 165) l (S l) p = some k → k < 16 := fun k hk => by
  have := (fnd_some hk).1
  have := (h.1.2.2.1 l hl).1.1.2
  omega
theorem t_value (h : GG B cnt mode T S I L) (x y : Int32) : Two B L (X6_value 1 x y) (X7_value 164 x y) I := by
  have hc4 := h.1.1.1
  have hI1 : I 2 1 = nI cnt := h.1.2.1.1
  rcases wi_c x 0 (nI cnt) 0 cnt rfl (nI_toInt (by omega)) with hx | ⟨hx, l, -, hl, -, rfl⟩
  · have hx0 : ¬ x = 0 := fun e => by
      rw [wi_y (n := 0) x 0 (nI cnt) e (by omega) (by rw [show (0 : Int32).toInt = 0 from rfl]; omega) (by rw [nI_toInt (by omega)]; omega)] at hx
      exact absurd (Option.some.inj hx) (by decide)
    rcases lev_c h x with ⟨-, e2⟩ | ⟨l, hl, rfl, -, -⟩
    · exact Two.ref h 0 (by omega) (-52) rx0 (by unfold X6_value; rw [rR.1, hI1, hx, ob_some, if_pos rfl]; exact jb2_id _) (fun J hJ => by unfold X7_value; rw [jlet_d, if_neg hx0, e2 J (hJ _ (by omega)), ob_some, if_pos rfl]; exact jb2_id _)
    · rw [wi_y (n := l + 1) _ 0 (nI cnt) rfl (by omega) (by rw [show (0 : Int32).toInt = 0 from rfl]; omega) (by rw [nI_toInt (by omega)]; omega)] at hx
      exact absurd (Option.some.inj hx) (by decide)
  cases l with
  | zero =>
    rcases page_c y with ⟨e1, e2⟩ | ⟨p, hp, rfl, e1, e2⟩
    · exact Two.ref h 0 (by omega) (-52) rx0 (by unfold X6_value; rw [rR.1, hI1, hx, ob_some, if_neg (by decide), e1, ob_some, if_pos rfl]; exact jb2_id _) (fun J hJ => by unfold X7_value; rw [jlet_d, if_pos n00, e2, ob_some, if_pos rfl]; exact jb2_id _)
    · refine Two.same h (I 165 p) ?_ ?_
      · unfold X6_value
        rw [rR.1, hI1, hx, ob_some, if_neg (by decide), e1, ob_some, if_neg (by decide), if_pos n00, inMem_e OB2 hp, ob_some, h.1.2.2.2.1.1 p hp]
      · unfold X7_value
        rw [jlet_d, if_pos n00, e2, ob_some, if_neg (by decide), if_pos n00, if_pos (jin_N (by omega) (by omega)), rM0, cl_N (by omega)]
  | succ l =>
    have hne : ¬ nI (l + 1) = (0 : Int32) := nI_ne0 (by omega) (by omega)
    have hll : l < cnt := by omega
    have e2 : ∀ J : jI, J 165 = I 165 → X7_isLevel 164 (nI (l + 1)) J = some 1 := fun J hJ => by
      rcases lev_c h (nI (l + 1)) with ⟨e1, -⟩ | ⟨-, -, -, -, q⟩
      · rw [hI1, wi_y (n := l + 1) _ 1 (nI cnt) rfl (by omega) (by rw [show (1 : Int32).toInt = 1 from rfl]; omega) (by rw [nI_toInt (by omega)]; omega)] at e1
        exact absurd (Option.some.inj e1) (by decide)
      · exact q J hJ
    have hL := h.1.2.2.1 l hll
    have hb := LB_o OB2 (show l < 4 by omega)
    rcases page_c y with ⟨p1, p2⟩ | ⟨p, hp, rfl, p1, p2⟩
    · exact Two.ref h 0 (by omega) (-52) rx0 (by unfold X6_value; rw [rR.1, hI1, hx, ob_some, if_neg (by decide), p1, ob_some, if_pos rfl]; exact jb2_id _) (fun J hJ => by unfold X7_value; rw [jlet_d, if_neg hne, e2 J (hJ _ (by omega)), ob_some, if_neg (by decide), p2, ob_some, if_pos rfl]; exact jb2_id _)
    · rcases oI_c (fnd16 h hll (nI p)) with ⟨q1, q2⟩ | ⟨k, q1, q2, q3⟩
      · refine Two.ref h 3 (by omega) (-55) rx3 ?_ (fun J hJ => ?_)
        · unfold X6_value
          rw [rR.1, hI1, hx, ob_some, if_neg (by decide), p1, ob_some, if_neg (by decide), if_neg hne, levelAt_e OB2 I hI1 hc4 hll, ob_some, if_neg hb.1, hL.slotOf hb hp, ob_some, q2, if_pos rfl]
          exact jb2_id _
        · unfold X7_value
          rw [jlet_d, if_neg hne, e2 J (hJ _ (by omega)), ob_some, if_neg (by decide), p2, ob_some, if_neg (by decide), if_neg hne, nI_pred, found_G h hll _ J (hJ _ (by omega)), ob_some, q2, if_neg (by decide)]
          exact jb2_id _
      · refine Two.same h (I 165 (140 + 140 * l + 7 * k + 1)) ?_ ?_
        · unfold X6_value
          rw [rR.1, hI1, hx, ob_some, if_neg (by decide), p1, ob_some, if_neg (by decide), if_neg hne, levelAt_e OB2 I hI1 hc4 hll, ob_some, if_neg hb.1, hL.slotOf hb hp, ob_some, q3, if_neg (m1_ne (by omega)), ob_some, valueIn_e hb q2, ob_some, (hL.slot q2 (fnd_some q1).2.1 hp).2.2.1]
        · unfold X7_value
          rw [jlet_d, if_neg hne, e2 I rfl, ob_some, if_neg (by decide), p2, ob_some, if_neg (by decide), if_neg hne, nI_pred, found_G h hll _ I rfl, ob_some, q3, if_pos (nI_pos' (by omega)), note_e 1 l k 1 rfl (by omega), ob_some]
theorem bitM : ∀ x, x < 16 → ∀ i, i < 4 → nI x ||| ((1 : Int32) <<< (nI i &&& 31)) = nI (x ||| 2 ^ i) ∧ nI x ||| 0 = nI x := by decide +kernel
theorem where_M (h : GG B cnt mode T S I L) (p : Int32) : ∀ d n i x, i + d = cnt → d < n → x < 16 → jfx (X7_where_F1 164 p I) (fun _ _ => none) n (nI x) (nI i) = some (nI (msk (I 165) S p d i x), I) := by
  have hc4 := h.1.1.1
  intro d
  induction d with
  | zero =>
    intro n i x h1 h2 h3
    obtain ⟨n, rfl⟩ : ∃ q, n = q + 1 := ⟨n - 1, by omega⟩
    rw [jfx_s, X7_where_F1, if_pos (by decide), rM0, show ((688 : Int32)).toNatClampNeg = 688 from rfl, h.1.2.1.2.1, if_pos (nI_le (by omega) (by omega))]
    rfl
  | succ d ih =>
    intro n i x h1 h2 h3
    obtain ⟨n, rfl⟩ : ∃ q, n = q + 1 := ⟨n - 1, by omega⟩
    obtain ⟨b1, b2⟩ := bitM x h3 i (by omega)
    have b3 := (bitK x h3 i (by omega)).2.1
    rw [jfx_s, X7_where_F1, if_pos (by decide), rM0, show ((688 : Int32)).toNatClampNeg = 688 from rfl, h.1.2.1.2.1, if_neg (nI_ge (by omega) (by omega)), found_G h (show i < cnt by omega) p I rfl, ob_some, jlet_d, jlet_d, show nI i + (1 : Int32) = nI (i + 1) from nI_1 _]
    unfold msk
    rcases oI_c (fnd16 h (show i < cnt by omega) p) with ⟨q1, q2⟩ | ⟨k, q1, q2, q3⟩
    · rw [q2, if_pos (by decide), b2, q1]
      exact ih n (i + 1) x (by omega) (by omega) h3
    · rw [q3, if_neg (nI_pos (by omega)), b1, q1]
      exact ih n (i + 1) _ (by omega) (by omega) b3
theorem t_where (h : GG B cnt mode T S I L) (x : Int32) : Two B L (X6_where 1 x) (X7_where 164 x) I := by
  rcases page_c x with ⟨e1, e2⟩ | ⟨p, hp, rfl, e1, e2⟩
  · exact Two.ref h 0 (by omega) (-52) rx0 (by unfold X6_where; rw [e1, ob_some, if_pos rfl]; exact jb2_id _) (fun J _ => by unfold X7_where; rw [e2, ob_some, if_pos rfl]; exact jb2_id _)
  · refine Two.same h (nI (msk (I 165) S (nI p) cnt 0 0)) ?_ ?_
    · unfold X6_where
      rw [e1, ob_some, if_neg (by decide), rR.1, levelsWith_e (B := B) (mode := mode) (T := T) OB2 hp h.1.1.1 h.1.2.1.1 h.1.2.2.1, ob_some]
    · unfold X7_where
      rw [e2, ob_some, if_neg (by decide)]
      exact where_M h (nI p) cnt 1000 0 0 (by omega) (by have := h.1.1.1; omega) (by omega)
/-- the dirty ones among the first slots -/
def dOc (m : Mn) (l : Nat) : Nat → Nat
  | 0 => 0
  | n + 1 => dOc m l n + (if ¬ m (140 + 140 * l + 7 * n) = -1 ∧ m (140 + 140 * l + 7 * n + 2) = 1 then 1 else 0)
theorem dOc_s {m : Mn} {l n : Nat} : dOc m l (n + 1) = dOc m l n + (if ¬ m (140 + 140 * l + 7 * n) = -1 ∧ m (140 + 140 * l + 7 * n + 2) = 1 then 1 else 0) := rfl
theorem occ_s {m : Mn} {l n : Nat} : occ m l (n + 1) = occ m l n + (if m (140 + 140 * l + 7 * n) = -1 then 0 else 1) := rfl
theorem dOc_le {m : Mn} {l : Nat} : ∀ {n : Nat}, dOc m l n ≤ n
  | 0 => Nat.le_refl _
  | n + 1 => by
    have := dOc_le (m := m) (l := l) (n := n)
    unfold dOc
    split <;> omega
theorem dirty_C {b l s : Nat} {m : Mn} (hL : LR B b I m l s) (hb : LB b) : ∀ d n k, k + d = s → d < n → jfx (X2_dirtyOnes_F1 b I) (fun _ _ => none) n (nI (dOc m l k)) (nI k) = some (nI (dOc m l s)) := by
  have hs := hL.1.1
  intro d
  induction d with
  | zero =>
    intro n k h1 h2
    obtain ⟨n, rfl⟩ : ∃ q, n = q + 1 := ⟨n - 1, by omega⟩
    rw [jfx_s, X2_dirtyOnes_F1, hL.1.2.1.1, if_pos (nI_le (by omega) (by omega)), show k = s by omega]
  | succ d ih =>
    intro n k h1 h2
    obtain ⟨n, rfl⟩ : ∃ q, n = q + 1 := ⟨n - 1, by omega⟩
    obtain ⟨p1, p2⟩ := hL.2.1 k (by omega)
    have key : ∃ v : Int32, (v = 0 ∨ v = 1) ∧ I (b + 3) k = v ∧ (if ¬ m (140 + 140 * l + 7 * k) = -1 ∧ m (140 + 140 * l + 7 * k + 2) = 1 then 1 else 0) = (if v = 0 then 0 else 1) := by
      rcases p2 with ⟨q1, q2⟩ | ⟨p, hp, q1, -, -, -, ⟨q5, q6⟩, -⟩
      · exact ⟨0, Or.inl rfl, q2, by rw [if_neg (fun z => z.1 q1), if_pos rfl]⟩
      · refine ⟨_, q6, q5, ?_⟩
        rcases q6 with e | e
        · rw [e, if_neg (fun z => absurd z.2 (by decide)), if_pos rfl]
        · rw [e, if_pos ⟨by rw [q1]; exact m1_ne (by omega), rfl⟩, if_neg (by decide)]
    obtain ⟨v, v1, v2, v3⟩ := key
    have := ih n (k + 1) (by omega) (by omega)
    rw [dOc_s, v3] at this
    rw [jfx_s, X2_dirtyOnes_F1, hL.1.2.1.1, if_neg (nI_ge (by omega) (by omega)), isDirty_e hb (by omega) I (by rw [v2]; exact v1), ob_some, jlet_d, jlet_d, v2, show nI k + (1 : Int32) = nI (k + 1) from nI_1 _, ← this]
    rcases v1 with e | e
    · rw [e, if_pos rfl, if_pos rfl, show nI (dOc m l k) + (0 : Int32) = nI (dOc m l k + 0) from nI_add _ 0]
    · rw [e, if_neg (by decide), if_neg (by decide), show nI (dOc m l k) + (1 : Int32) = nI (dOc m l k + 1) from nI_add _ 1]
theorem levelOf_M (h : GG B cnt mode T S I L) {l : Nat} (hl : l < cnt) (k13 : Int32 → Int32 → Option (Int32 × jI)) : ∀ d n k, k + d = S l → d < n → jfx (X7_levelOf_F1 164 I (nI l) k13) (fun _ _ _ => none) n (nI (occ (I 165) l k)) (nI (dOc (I 165) l k)) (nI k) = k13 (nI (occ (I 165) l (S l))) (nI (dOc (I 165) l (S l))) := by
  have hL := h.1.2.2.1 l hl
  have hc4 := h.1.1.1
  have hs := hL.1.1
  intro d
  induction d with
  | zero =>
    intro n k h1 h2
    obtain ⟨n, rfl⟩ : ∃ q, n = q + 1 := ⟨n - 1, by omega⟩
    rw [jfx_s, X7_levelOf_F1, of_e 0 l 0 rfl (by omega), ob_some, Nat.add_zero, hL.1.2.1.2, if_pos (nI_le (by omega) (by omega)), show k = S l by omega]
  | succ d ih =>
    intro n k h1 h2
    obtain ⟨n, rfl⟩ : ∃ q, n = q + 1 := ⟨n - 1, by omega⟩
    have := ih n (k + 1) (by omega) (by omega)
    rw [occ_s, dOc_s] at this
    rw [jfx_s, X7_levelOf_F1, of_e 0 l 0 rfl (by omega), ob_some, Nat.add_zero, hL.1.2.1.2, if_neg (nI_ge (by omega) (by omega)), note_e 0 l k 0 rfl (by omega), ob_some, Nat.add_zero, jlet_d, jlet_d, jlet_d, jlet_d, jlet_d, show nI k + (1 : Int32) = nI (k + 1) from nI_1 _, ← this, note_e 2 l k 2 rfl (by omega)]
    dsimp only
    obtain ⟨-, p2⟩ := hL.2.1 k (by omega)
    rcases p2 with ⟨q1, q2⟩ | ⟨p, hp, q1, -, -, -, ⟨q5, q6⟩, -⟩
    · rw [q1, if_pos (show (-1 : Int32) < 0 by decide), if_pos rfl, if_pos rfl, if_pos rfl, if_neg (fun z => z.1 rfl), jlet_d, show nI (occ (I 165) l k) + (0 : Int32) = nI (occ (I 165) l k + 0) from nI_add _ 0, show nI (dOc (I 165) l k) + (0 : Int32) = nI (dOc (I 165) l k + 0) from nI_add _ 0]
    · rw [q1, if_neg (nI_pos (show p < 2147483648 by omega)), if_neg (show ¬ (1 : Int32) = 0 by decide), if_neg (show ¬ (1 : Int32) = 0 by decide), if_neg (m1_ne (by omega)), ob_some, show nI (occ (I 165) l k) + (1 : Int32) = nI (occ (I 165) l k + 1) from nI_add _ 1]
      rcases q6 with e | e
      · rw [e, if_neg (by decide), if_neg (fun z => absurd z.2 (by decide)), jlet_d, show nI (dOc (I 165) l k) + (0 : Int32) = nI (dOc (I 165) l k + 0) from nI_add _ 0]
      · rw [e, if_pos rfl, if_pos ⟨m1_ne (by omega), rfl⟩, jlet_d, show nI (dOc (I 165) l k) + (1 : Int32) = nI (dOc (I 165) l k + 1) from nI_add _ 1]
theorem t_levelOf (h : GG B cnt mode T S I L) (x y : Int32) : Two B L (X6_levelOf 1 x y) (X7_levelOf 164 x y) I := by
  have hc4 := h.1.1.1
  rcases lvA_c h x with ⟨e1, e2⟩ | ⟨l, hl, rfl, e1, hb, e2⟩
  · exact Two.ref h 0 (by omega) (-52) rx0 (by unfold X6_levelOf; rw [rR.1, e1, ob_some, if_pos rfl]; exact jb2_id _) (fun J hJ => by unfold X7_levelOf; rw [e2 J (hJ _ (by omega)), ob_some, if_pos rfl]; exact jb2_id _)
  rcases wi_c y 0 9 0 9 rfl rfl with hy | ⟨hy, w, -, hw, -, rfl⟩
  · exact Two.ref h 0 (by omega) (-52) rx0 (by unfold X6_levelOf; rw [rR.1, e1, ob_some, if_neg hb.1, hy, ob_some, if_pos rfl]; exact jb2_id _) (fun J hJ => by unfold X7_levelOf; rw [e2 J (hJ _ (by omega)), ob_some, if_neg (by decide), within_e y 0 9 0 9 rfl rfl, hy, ob_some, if_pos rfl]; exact jb2_id _)
  have hL := h.1.2.2.1 l hl
  have hs := hL.1.1
  have hoc : occ (I 165) l 16 = occ (I 165) l (S l) := occ_ext (by omega) (fun k h1 h2 => by
    rcases (hL.2.1 k h2).2 with ⟨h3, -⟩ | ⟨q, -, -, a3, -⟩
    · exact h3
    · omega)
  obtain ⟨a1, ⟨a2, a2'⟩, ⟨c, -, a3, a3'⟩, ⟨kk, -, a4, a4'⟩, -, -, b5, b6, b7, b8, b9, b10⟩ := hL.1
  have cC : ∀ v, X2_tells (2 + 10 + 9 * l) (nI w) I = some v → (if (3 : Int32) ≤ nI w then (
if nI w = (3 : Int32) then (
some (nI (occ (I 165) l (S l)), I))
else (
if nI w = (4 : Int32) then (
some (nI (dOc (I 165) l (S l)), I))
else (
(X7_of 164 (nI l) (nI w - (1 : Int32)) I).bind (fun (y17 : Int32) =>
some (y17, I)))))
else (
(X7_of 164 (nI l) (nI w) I).bind (fun (y19 : Int32) =>
some (y19, I)))) = some (v, I) → Two B L (X6_levelOf 1 (nI (l + 1)) (nI w)) (X7_levelOf 164 (nI (l + 1)) (nI w)) I := fun v z1 z2 => by
    refine Two.same h v ?_ ?_
    · unfold X6_levelOf
      rw [rR.1, e1, ob_some, if_neg hb.1, hy, ob_some, if_neg (by decide), z1, ob_some]
    · unfold X7_levelOf
      rw [e2 I rfl, ob_some, if_neg (by decide), within_e _ 0 9 0 9 rfl rfl, hy, ob_some, if_neg (by decide), nI_pred, jlet_d, jlet_d]
      exact (levelOf_M h hl _ (S l) 1000 0 (by omega) (by omega)).trans z2
  unfold X2_tells at cC
  obtain rfl | rfl | rfl | rfl | rfl | rfl | rfl | rfl | rfl | rfl : w = 0 ∨ w = 1 ∨ w = 2 ∨ w = 3 ∨ w = 4 ∨ w = 5 ∨ w = 6 ∨ w = 7 ∨ w = 8 ∨ w = 9 := by omega
  · refine cC (nI (S l)) ?_ ?_
    · rw [if_pos (by decide), a2]
    · rw [if_neg (by decide), of_e _ l 0 rfl (by omega), ob_some, Nat.add_zero, a2']
  · refine cC (nI c) ?_ ?_
    · rw [if_neg (by decide), if_pos (by decide), a3]
    · rw [if_neg (by decide), of_e _ l 1 rfl (by omega), ob_some, show 128 + 140 * l + 1 = 129 + 140 * l by omega, a3']
  · refine cC (nI kk) ?_ ?_
    · rw [if_neg (by decide), if_neg (by decide), if_pos (by decide), a4]
    · rw [if_neg (by decide), of_e _ l 2 rfl (by omega), ob_some, show 128 + 140 * l + 2 = 130 + 140 * l by omega, a4']
  · refine cC (nI (occ (I 165) l (S l))) ?_ ?_
    · rw [if_neg (by decide), if_neg (by decide), if_neg (by decide), if_pos (by decide), b10, hoc]
    · rw [if_pos (by decide), if_pos (by decide)]
  · refine cC (nI (dOc (I 165) l (S l))) ?_ ?_
    · rw [if_neg (by decide), if_neg (by decide), if_neg (by decide), if_neg (by decide), if_pos (by decide)]
      unfold X2_dirtyOnes
      rw [show jfx (X2_dirtyOnes_F1 (2 + 10 + 9 * l) I) (fun _ _ => none) 1000 (0 : Int32) (0 : Int32) = some (nI (dOc (I 165) l (S l))) from dirty_C hL hb (S l) 1000 0 (by omega) (by omega), ob_some]
    · rw [if_pos (by decide), if_neg (by decide), if_pos (by decide)]
  · refine cC (I 165 (132 + 140 * l)) ?_ ?_
    · rw [if_neg (by decide), if_neg (by decide), if_neg (by decide), if_neg (by decide), if_neg (by decide), if_pos (by decide), b5]
    · rw [if_pos (by decide), if_neg (by decide), if_neg (by decide), of_e (nI 5 - 1) l 4 (nI_pred 4) (by omega), ob_some, show 128 + 140 * l + 4 = 132 + 140 * l by omega]
  · refine cC (I 165 (133 + 140 * l)) ?_ ?_
    · rw [if_neg (by decide), if_neg (by decide), if_neg (by decide), if_neg (by decide), if_neg (by decide), if_neg (by decide), if_pos (by decide), b6]
    · rw [if_pos (by decide), if_neg (by decide), if_neg (by decide), of_e (nI 6 - 1) l 5 (nI_pred 5) (by omega), ob_some, show 128 + 140 * l + 5 = 133 + 140 * l by omega]
  · refine cC (I 165 (134 + 140 * l)) ?_ ?_
    · rw [if_neg (by decide), if_neg (by decide), if_neg (by decide), if_neg (by decide), if_neg (by decide), if_neg (by decide), if_neg (by decide), if_pos (by decide), b7]
    · rw [if_pos (by decide), if_neg (by decide), if_neg (by decide), of_e (nI 7 - 1) l 6 (nI_pred 6) (by omega), ob_some, show 128 + 140 * l + 6 = 134 + 140 * l by omega]
  · refine cC (I 165 (135 + 140 * l)) ?_ ?_
    · rw [if_neg (by decide), if_neg (by decide), if_neg (by decide), if_neg (by decide), if_neg (by decide), if_neg (by decide), if_neg (by decide), if_neg (by decide), if_pos (by decide), b8]
    · rw [if_pos (by decide), if_neg (by decide), if_neg (by decide), of_e (nI 8 - 1) l 7 (nI_pred 7) (by omega), ob_some, show 128 + 140 * l + 7 = 135 + 140 * l by omega]
  · refine cC (I 165 (136 + 140 * l)) ?_ ?_
    · rw [if_neg (by decide), if_neg (by decide), if_neg (by decide), if_neg (by decide), if_neg (by decide), if_neg (by decide), if_neg (by decide), if_neg (by decide), if_neg (by decide), b9]
    · rw [if_pos (by decide), if_neg (by decide), if_neg (by decide), of_e (nI 9 - 1) l 8 (nI_pred 8) (by omega), ob_some, show 128 + 140 * l + 8 = 136 + 140 * l by omega]
end ASK
