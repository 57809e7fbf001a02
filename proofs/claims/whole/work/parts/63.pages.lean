/-! PAGES: clear and pages on both sides -/
def orB (P : Nat → Bool) : Nat → Nat → Int64 → Int64
  | 0, _, v => v
  | d + 1, i, v => orB P d (i + 1) (if P i = true then v ||| jlshl 1 (nI i) else v)
theorem orB_s {P : Nat → Bool} {d i : Nat} {v : Int64} : orB P (d + 1) i v = orB P d (i + 1) (if P i = true then v ||| jlshl 1 (nI i) else v) := rfl
theorem orB_bits {P : Nat → Bool} : ∀ {d i : Nat} {v : Int64} {Q : Nat → Bool}, i + d ≤ 64 → bits v Q → bits (orB P d i v) (fun j => Q j || (decide (i ≤ j ∧ j < i + d) && P j))
  | 0, i, v, Q, _, hv => bits_congr hv (fun j _ => by rw [decide_eq_false (by omega)]; simp)
  | d + 1, i, v, Q, h, hv => by
    rw [orB_s]
    by_cases hp : P i = true
    · rw [if_pos hp]
      refine bits_congr (orB_bits (by omega) (bits_set hv (show i < 64 by omega))) (fun j _ => ?_)
      by_cases e : i = j
      · subst e
        rw [decide_eq_true rfl, decide_eq_false (show ¬ (i + 1 ≤ i ∧ i < i + 1 + d) by omega), decide_eq_true (show i ≤ i ∧ i < i + (d + 1) by omega), hp]
        simp
      · rw [decide_eq_false e]
        by_cases e2 : i + 1 ≤ j ∧ j < i + 1 + d
        · rw [decide_eq_true e2, decide_eq_true (show i ≤ j ∧ j < i + (d + 1) by omega)]; simp
        · rw [decide_eq_false e2, decide_eq_false (show ¬ (i ≤ j ∧ j < i + (d + 1)) by omega)]; simp
    · rw [if_neg hp]
      refine bits_congr (orB_bits (by omega) hv) (fun j _ => ?_)
      by_cases e : i = j
      · subst e
        rw [show P i = false by simpa using hp]
        simp
      · by_cases e2 : i + 1 ≤ j ∧ j < i + 1 + d
        · rw [decide_eq_true e2, decide_eq_true (show i ≤ j ∧ j < i + (d + 1) by omega)]
        · rw [decide_eq_false e2, decide_eq_false (show ¬ (i ≤ j ∧ j < i + (d + 1)) by omega)]
theorem orB_b {P : Nat → Bool} : bits (orB P 64 0 0) P := bits_congr (orB_bits (by omega) bits_0) (fun j hj => by rw [decide_eq_true (show 0 ≤ j ∧ j < 0 + 64 by omega)]; simp)
theorem orB_congr {P Q : Nat → Bool} : ∀ {d i : Nat} {v : Int64}, (∀ j, i ≤ j → j < i + d → P j = Q j) → orB P d i v = orB Q d i v
  | 0, _, _, _ => rfl
  | d + 1, i, v, h => by rw [orB_s, orB_s, h i (by omega) (by omega), orB_congr (fun j a b => h j (by omega) (by omega))]
theorem msk_tb {m : Mn} {S : Nat → Nat} {q : Int32} {l : Nat} : ∀ {d i x : Nat}, (msk m S q d i x).testBit l = (x.testBit l || (decide (i ≤ l ∧ l < i + d) && (fnd m l (S l) q).isSome))
  | 0, i, x => by
    rw [decide_eq_false (by omega)]
    simp [msk]
  | d + 1, i, x => by
    unfold msk
    rw [msk_tb]
    by_cases e : i = l
    · subst e
      rw [decide_eq_false (show ¬ (i + 1 ≤ i ∧ i < i + 1 + d) by omega), decide_eq_true (show i ≤ i ∧ i < i + (d + 1) by omega)]
      cases hf : (fnd m i (S i) q).isSome with
      | true => rw [if_pos rfl, Nat.testBit_or, Nat.testBit_two_pow_self]; simp
      | false => rw [if_neg (by decide)]; simp
    · have e1 : (if (fnd m i (S i) q).isSome = true then x ||| 2 ^ i else x).testBit l = x.testBit l := by
        split
        · rw [Nat.testBit_or, Nat.testBit_two_pow_of_ne e]; simp
        · rfl
      rw [e1]
      by_cases e2 : i + 1 ≤ l ∧ l < i + 1 + d
      · rw [decide_eq_true e2, decide_eq_true (show i ≤ l ∧ l < i + (d + 1) by omega)]
      · rw [decide_eq_false e2, decide_eq_false (show ¬ (i ≤ l ∧ l < i + (d + 1)) by omega)]
theorem msk_at {m : Mn} {S : Nat → Nat} {q : Int32} {l cnt : Nat} (hl : l < cnt) : (msk m S q cnt 0 0).testBit l = (fnd m l (S l) q).isSome := by
  rw [msk_tb, decide_eq_true (show 0 ≤ l ∧ l < 0 + cnt by omega), Nat.zero_testBit]; simp
theorem msk_no {m : Mn} {S : Nat → Nat} {q : Int32} {l cnt : Nat} (hl : cnt ≤ l) : (msk m S q cnt 0 0).testBit l = false := by
  rw [msk_tb, decide_eq_false (show ¬ (0 ≤ l ∧ l < 0 + cnt) by omega), Nat.zero_testBit]; simp
theorem shr_fin : ∀ x, x < 16 → ∀ l, l < 4 → (jushr (nI x) (nI (l + 1) - 1)) &&& 1 = if x.testBit l = true then (1 : Int32) else 0 := by decide +kernel
section PG
variable {B o cnt mode T : Nat} {S : Nat → Nat} {I : jI} {m : Mn} {L : jL}
theorem pagesIn_g (ho : OB o) (h : ST B o cnt mode T S I m) {p0 : Int32} {P : Nat → Bool} (hP : ∀ q, q < 64 → ∀ k9 k8 : Option Int64, (if p0 = 0 then (if nI (msk m S (nI q) cnt 0 0) = 0 then k8 else k9) else (if ((jushr (nI (msk m S (nI q) cnt 0 0)) (p0 - (1 : Int32))) &&& (1 : Int32)) = (1 : Int32) then k9 else k8)) = if P q = true then k9 else k8) : X4_pagesIn o p0 I = some (orB P 64 0 0) := by
  have key : ∀ d n q (v : Int64), q + d = 64 → d < n → jfx (X4_pagesIn_F1 o p0 I) (fun _ _ => none) n v (nI q) = some (orB P d q v) := by
    intro d
    induction d with
    | zero =>
      intro n q v h1 h2
      obtain ⟨n, rfl⟩ : ∃ q, n = q + 1 := ⟨n - 1, by omega⟩
      rw [jfx_s, X4_pagesIn_F1, if_pos (lle (64 : Int32) 64 rfl (by omega) (by omega))]
      rfl
    | succ d ih =>
      intro n q v h1 h2
      obtain ⟨n, rfl⟩ : ∃ q, n = q + 1 := ⟨n - 1, by omega⟩
      rw [jfx_s, X4_pagesIn_F1, if_neg (lge (64 : Int32) 64 rfl (by omega) (by omega)), levelsWith_e (B := B) (mode := mode) (T := T) ho (show q < 64 by omega) h.1.1 h.2.1.1 h.2.2.1, ob_some, jlet_d, jlet_d, jlet_d, show nI q + (1 : Int32) = nI (q + 1) from nI_1 _, orB_s]
      refine (hP q (by omega) _ _).trans ?_
      by_cases e : P q = true
      · rw [if_pos e, if_pos e]; exact ih n (q + 1) _ (by omega) (by omega)
      · rw [if_neg e, if_neg e]; exact ih n (q + 1) _ (by omega) (by omega)
  exact key 64 1000 0 0 (by omega) (by omega)
def anyP (m : Mn) (S : Nat → Nat) (cnt q : Nat) : Bool := anyL m S (nI q) cnt 0
theorem pagesIn_0 (ho : OB o) (h : ST B o cnt mode T S I m) : X4_pagesIn o 0 I = some (orB (anyP m S cnt) 64 0 0) := by
  have hc4 := h.1.1
  refine pagesIn_g ho h (fun q hq k9 k8 => ?_)
  have h0 := msk_0 (m := m) (S := S) (q := nI q) (d := cnt) (i := 0) (x := 0) (by omega) (by omega)
  have hlt := msk_lt (m := m) (S := S) (q := nI q) (d := cnt) (i := 0) (x := 0) (by omega) (by omega)
  rw [if_pos rfl]
  unfold anyP
  cases ha : anyL m S (nI q) cnt 0 with
  | true =>
    rw [if_neg (nI_ne0 (Nat.pos_of_ne_zero (fun e => by have := (h0.mp e).2; rw [ha] at this; cases this)) (by omega)), if_pos rfl]
  | false =>
    rw [h0.mpr ⟨rfl, ha⟩, if_pos n00, if_neg (by decide)]
theorem pagesIn_l (ho : OB o) (h : ST B o cnt mode T S I m) {l : Nat} (hl : l < cnt) : X4_pagesIn o (nI (l + 1)) I = some (orB (fun q => (fnd m l (S l) (nI q)).isSome) 64 0 0) := by
  have hc4 := h.1.1
  refine pagesIn_g ho h (fun q hq k9 k8 => ?_)
  have hlt := msk_lt (m := m) (S := S) (q := nI q) (d := cnt) (i := 0) (x := 0) (by omega) (by omega)
  rw [if_neg (nI_ne0 (by omega) (by omega)), shr_fin _ hlt l (by omega), msk_at hl]
  cases (fnd m l (S l) (nI q)).isSome with
  | true => rw [if_pos rfl, if_pos rfl, if_pos rfl]
  | false => rw [if_neg (by decide), if_neg (by decide)]
/-- how many pages lie anywhere, in the model -/
theorem manyM (h : ST B o cnt mode T S I m) (J : jI) (hJ : J 165 = m) : X7_manyPages 164 J = some (nI (cntB (anyP m S cnt) 64)) := by
  have key : ∀ d n q, q + d = 64 → d < n → jfx (X7_manyPages_F1 164 J) (fun _ _ => none) n (nI (cntB (anyP m S cnt) q)) (nI q) = some (nI (cntB (anyP m S cnt) 64)) := by
    intro d
    induction d with
    | zero =>
      intro n q h1 h2
      obtain ⟨n, rfl⟩ : ∃ q, n = q + 1 := ⟨n - 1, by omega⟩
      rw [jfx_s, X7_manyPages_F1, if_pos (lle (64 : Int32) 64 rfl (by omega) (by omega)), show q = 64 by omega]
    | succ d ih =>
      intro n q h1 h2
      obtain ⟨n, rfl⟩ : ∃ q, n = q + 1 := ⟨n - 1, by omega⟩
      have hi := ih n (q + 1) (by omega) (by omega)
      rw [cntB_s] at hi
      rw [jfx_s, X7_manyPages_F1, if_neg (lge (64 : Int32) 64 rfl (by omega) (by omega)), anyWhere_e h.1.1 h.2.1.2.1 h.2.2.1 J hJ, ob_some, jlet_d, jlet_d, show nI q + (1 : Int32) = nI (q + 1) from nI_1 _, ← hi]
      by_cases e : anyP m S cnt q = true
      · have e' : anyL m S (nI q) cnt 0 = true := e
        rw [if_pos e', if_pos e, if_neg (by decide), show nI (cntB (anyP m S cnt) q) + (1 : Int32) = nI (cntB (anyP m S cnt) q + 1) from nI_1 _]
      · have e' : ¬ anyL m S (nI q) cnt 0 = true := e
        rw [if_neg e', if_neg e, if_pos rfl, show nI (cntB (anyP m S cnt) q) + (0 : Int32) = nI (cntB (anyP m S cnt) q + 0) from nI_add _ 0]
  exact key 64 1000 0 (by omega) (by omega)
theorem t_clear (h : GG B cnt mode T S I L) : Two B L (X6_clear 1) (X7_clear 164) I := by
  obtain ⟨I', m', s1, s2, s3, s4, s5⟩ := sweepOut_ST OB2 h.1
  refine ⟨nI (cntB (anyP (I 165) S cnt) 64), I', jrow I' 165 m', ?_, ?_, _, _, _, _, (h.row s3 (Nat.le_refl _) (fun r hr => s5 r (by omega)) (Nat.le_refl _)).mono (by omega)⟩
  · unfold X6_clear
    rw [rR.1, pagesIn_0 OB2 h.1, ob_some, bitCount_b orB_b, ob_some, s1, ob_some]
  · unfold X7_clear
    rw [manyM h.1 I' (s5 165 (by omega)), ob_some, s2 I' (s5 165 (by omega)), ob_some]
theorem Two.refF {α : Type} {c m : jI → Option (α × jI)} (f : Int32 → α) (h : GG B cnt mode T S I L) (e : Nat) (he : e < 5) (x : Int32) (hx : (-52 : Int32) - x = nI e) (h1 : c I = jb2 (X6_refuse 1 x I) (fun y J => some (f y, J))) (h2 : ∀ J : jI, (∀ r, r ≠ 146 → J r = I r) → m J = jb2 (X7_refuses 164 x J) (fun y J' => some (f y, J'))) : Two B L c m I := by
  obtain ⟨I1, I2, a, b, g⟩ := rf_both h e he x hx
  have hI1 : ∀ r, r ≠ 146 → I1 r = I r := fun r hr => by
    rw [refuse_c e he x hx I] at a
    have := (Prod.mk.inj (Option.some.inj a)).2
    rw [← this, rT.2.2.1, jup_ne _ _ hr]
  exact ⟨f x, I1, I2, by rw [h1, a, jb2_some], by rw [h2 I1 hI1, b, jb2_some], cnt, mode, T, S, g.mono (by omega)⟩
theorem or0 (v : Int64) : v ||| 0 = v := by
  apply Int64.toBitVec_inj.mp
  rw [Int64.toBitVec_or, show (0 : Int64).toBitVec = 0#64 from rfl, BitVec.or_zero]
theorem pagesM {p0 : Int32} {P : Nat → Bool} {J : jI} (hP : ∀ q, q < 64 → ∀ k7 : Int32 → Option (Int64 × jI), (if p0 = 0 then (
(X7_isAnywhere 164 (nI q) J).bind (fun (y15 : Int32) =>
k7 y15))
else (
(X7_found 164 (p0 - (1 : Int32)) (nI q) J).bind (fun (y12 : Int32) =>
if y12 < 0 then (
k7 (0 : Int32))
else (
k7 (1 : Int32))))) = k7 (if P q = true then 1 else 0)) : jfx (X7_pages_F1 164 p0 J) (fun _ _ => none) 1000 (0 : Int64) (0 : Int32) = some (orB P 64 0 0, J) := by
  have key : ∀ d n q (v : Int64), q + d = 64 → d < n → jfx (X7_pages_F1 164 p0 J) (fun _ _ => none) n v (nI q) = some (orB P d q v, J) := by
    intro d
    induction d with
    | zero =>
      intro n q v h1 h2
      obtain ⟨n, rfl⟩ : ∃ q, n = q + 1 := ⟨n - 1, by omega⟩
      rw [jfx_s, X7_pages_F1, if_pos (lle (64 : Int32) 64 rfl (by omega) (by omega))]
      rfl
    | succ d ih =>
      intro n q v h1 h2
      obtain ⟨n, rfl⟩ : ∃ q, n = q + 1 := ⟨n - 1, by omega⟩
      rw [jfx_s, X7_pages_F1, if_neg (lge (64 : Int32) 64 rfl (by omega) (by omega)), jlet_d, show nI q + (1 : Int32) = nI (q + 1) from nI_1 _, orB_s]
      refine (hP q (by omega) _).trans ?_
      rw [jlet_d, jlet_d]
      by_cases e : P q = true
      · rw [if_pos e, if_pos e, if_neg (by decide)]; exact ih n (q + 1) _ (by omega) (by omega)
      · rw [if_neg e, if_neg e, if_pos rfl, or0]; exact ih n (q + 1) _ (by omega) (by omega)
  exact key 64 1000 0 0 (by omega) (by omega)
theorem t_pages (h : GG B cnt mode T S I L) (x : Int32) : Two B L (X6_pages 1 x) (X7_pages 164 x) I := by
  have hc4 := h.1.1.1
  have hI1 : I 2 1 = nI cnt := h.1.2.1.1
  rcases wi_c x 0 (nI cnt) 0 cnt rfl (nI_toInt (by omega)) with hx | ⟨hx, l, -, hl, -, rfl⟩
  · have hx0 : ¬ x = 0 := fun e => by
      rw [wi_y (n := 0) x 0 (nI cnt) e (by omega) (by rw [show (0 : Int32).toInt = 0 from rfl]; omega) (by rw [nI_toInt (by omega)]; omega)] at hx
      exact absurd (Option.some.inj hx) (by decide)
    rcases lev_c h x with ⟨-, e2⟩ | ⟨l, hl, rfl, -, -⟩
    · exact Two.refF (fun y => (y).toInt64 - (9000000000000000000 : Int64)) h 0 (by omega) (-52) rx0 (by unfold X6_pages; rw [rR.1, hI1, hx, ob_some, if_pos rfl]) (fun J hJ => by unfold X7_pages; rw [jlet_d, if_neg hx0, e2 J (hJ _ (by omega)), ob_some, if_pos rfl])
    · rw [wi_y (n := l + 1) _ 0 (nI cnt) rfl (by omega) (by rw [show (0 : Int32).toInt = 0 from rfl]; omega) (by rw [nI_toInt (by omega)]; omega)] at hx
      exact absurd (Option.some.inj hx) (by decide)
  cases l with
  | zero =>
    refine Two.same h (orB (anyP (I 165) S cnt) 64 0 0) ?_ ?_
    · unfold X6_pages
      rw [rR.1, hI1, hx, ob_some, if_neg (by decide), show nI 0 = (0 : Int32) from rfl, pagesIn_0 OB2 h.1, ob_some]
    · unfold X7_pages
      rw [jlet_d, if_pos n00]
      refine pagesM (fun q hq k7 => ?_)
      rw [if_pos n00, anyWhere_e hc4 h.1.2.1.2.1 h.1.2.2.1 I rfl, ob_some]
      rfl
  | succ l =>
    have hll : l < cnt := by omega
    have e2 : X7_isLevel 164 (nI (l + 1)) I = some 1 := by
      rcases lev_c h (nI (l + 1)) with ⟨e1, -⟩ | ⟨-, -, -, -, q⟩
      · rw [hI1, wi_y (n := l + 1) _ 1 (nI cnt) rfl (by omega) (by rw [show (1 : Int32).toInt = 1 from rfl]; omega) (by rw [nI_toInt (by omega)]; omega)] at e1
        exact absurd (Option.some.inj e1) (by decide)
      · exact q I rfl
    refine Two.same h (orB (fun q => (fnd (I 165) l (S l) (nI q)).isSome) 64 0 0) ?_ ?_
    · unfold X6_pages
      rw [rR.1, hI1, hx, ob_some, if_neg (by decide), pagesIn_l OB2 h.1 hll, ob_some]
    · unfold X7_pages
      rw [jlet_d, if_neg (nI_ne0 (by omega) (by omega)), e2, ob_some, if_neg (by decide)]
      refine pagesM (fun q hq k7 => ?_)
      rw [if_neg (nI_ne0 (by omega) (by omega)), nI_pred, found_G h hll _ I rfl, ob_some]
      rcases oI_c (fnd16 h hll (nI q)) with ⟨q1, q2⟩ | ⟨k, q1, q2, q3⟩
      · rw [q2, q1, if_pos (by decide)]; rfl
      · rw [q3, q1, if_neg (nI_pos (by omega))]; rfl
end PG
