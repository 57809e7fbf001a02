/-! REUSE and ROWOF: on both sides -/
theorem cmp_eq (x y : Int64) : (lg_cmp x y = 0) = (x = y) := by
  unfold lg_cmp
  by_cases c : x > y
  · rw [if_pos c]
    refine propext ⟨fun h => absurd h (by decide), fun h => ?_⟩
    subst h
    exact absurd (Int64.lt_iff_toInt_lt.mp c) (by omega)
  · rw [if_neg c]
    by_cases e : x = y
    · rw [if_pos e]
      exact propext ⟨fun _ => e, fun _ => rfl⟩
    · rw [if_neg e]
      exact propext ⟨fun h => absurd h (by decide), fun h => absurd h e⟩
theorem l64_eq {a b : Nat} (ha : a < 64) (hb : b < 64) : ((nI a).toInt64 = (nI b).toInt64) = (a = b) := by
  apply propext
  constructor
  · intro h
    have := congrArg Int64.toInt h
    rw [Int32.toInt_toInt64, Int32.toInt_toInt64, nI_toInt (by omega), nI_toInt (by omega)] at this
    omega
  · intro h; rw [h]
theorem cmpI {a b : Nat} (ha : a < 64) (hb : b < 64) : (lg_cmp (nI a).toInt64 (nI b).toInt64 = 0) ↔ a = b := by
  rw [cmp_eq, l64_eq ha hb]
def anyE (pg : Nat → Nat) (a : Nat) : Nat → Nat → Bool
  | 0, _ => false
  | d + 1, q => anyE pg a d q || decide (pg (a + d) = q)
theorem anyE_s {pg : Nat → Nat} {a d q : Nat} : anyE pg a (d + 1) q = (anyE pg a d q || decide (pg (a + d) = q)) := rfl
def dst (pg : Nat → Nat) (a : Nat) : Nat → Nat
  | 0 => 0
  | d + 1 => dst pg a d + (if anyE pg a d (pg (a + d)) = true then 0 else 1)
theorem dst_s {pg : Nat → Nat} {a d : Nat} : dst pg a (d + 1) = dst pg a d + (if anyE pg a d (pg (a + d)) = true then 0 else 1) := rfl
theorem cntB_add {P : Nat → Bool} {p : Nat} : ∀ {n : Nat}, cntB (fun i => P i || decide (p = i)) n = cntB P n + (if p < n ∧ P p = false then 1 else 0)
  | 0 => by rw [if_neg (by omega)]; rfl
  | n + 1 => by
    rw [cntB_s, cntB_s, cntB_add]
    by_cases e : p = n
    · subst e
      rw [if_neg (show ¬ (p < p ∧ P p = false) by omega), decide_eq_true rfl]
      cases h : P p with
      | true => rw [if_pos rfl, if_pos (by simp), if_neg (by simp)]
      | false => rw [if_neg (show ¬ false = true by decide), if_pos (by simp), if_pos (by simp)]
    · rw [decide_eq_false e, Bool.or_false]
      by_cases c : p < n ∧ P p = false
      · rw [if_pos c, if_pos (show p < n + 1 ∧ P p = false from ⟨by omega, c.2⟩)]; omega
      · rw [if_neg c, if_neg (show ¬ (p < n + 1 ∧ P p = false) from fun z => c ⟨by omega, z.2⟩)]; rfl
theorem cntB_anyE {pg : Nat → Nat} {a : Nat} : ∀ {d : Nat}, (∀ j, j < d → pg (a + j) < 64) → cntB (anyE pg a d) 64 = dst pg a d
  | 0, _ => by
    show cntB (fun _ => false) 64 = 0
    decide
  | d + 1, h => by
    rw [dst_s, show anyE pg a (d + 1) = (fun i => anyE pg a d i || decide (pg (a + d) = i)) from rfl, cntB_add, cntB_anyE (fun j hj => h j (by omega))]
    have hp := h d (by omega)
    cases e : anyE pg a d (pg (a + d)) with
    | true => rw [if_neg (by simp), if_pos rfl]
    | false => rw [if_pos ⟨hp, rfl⟩, if_neg (by decide)]
theorem dst_le {pg : Nat → Nat} {a : Nat} : ∀ {d : Nat}, dst pg a d ≤ d
  | 0 => Nat.le_refl _
  | d + 1 => by
    have := dst_le (pg := pg) (a := a) (d := d)
    rw [dst_s]; split <;> omega
section RU
variable {N s : Nat} {I : jI} {L : jL} {pg : Nat → Nat}
theorem pagesTold_e (ht : TOLD I L s 1 N pg) (hN : N ≤ 40) {a b : Nat} (hab : a ≤ b) (hb : b ≤ N) : ∃ v, X6_pagesTold 1 (nI a) (nI b) I = some v ∧ bits v (anyE pg a (b - a)) := by
  have key : ∀ d n i (v : Int64), i + d = b → a ≤ i → d < n → bits v (anyE pg a (i - a)) → ∃ v', jfx (X6_pagesTold_F1 1 (nI b) I) (fun _ _ => none) n v (nI i) = some v' ∧ bits v' (anyE pg a (b - a)) := by
    intro d
    induction d with
    | zero =>
      intro n i v h1 h2 h3 h4
      obtain ⟨n, rfl⟩ : ∃ q, n = q + 1 := ⟨n - 1, by omega⟩
      refine ⟨v, ?_, by rw [show b - a = i - a by omega]; exact h4⟩
      rw [jfx_s, X6_pagesTold_F1, if_pos (nI_le (by omega) (by omega))]
    | succ d ih =>
      intro n i v h1 h2 h3 h4
      obtain ⟨n, rfl⟩ : ∃ q, n = q + 1 := ⟨n - 1, by omega⟩
      obtain ⟨p1, p2, -⟩ := ht i (by omega)
      obtain ⟨v', c1, c2⟩ := ih n (i + 1) (v ||| jlshl 1 (nI (pg i))) (by omega) (by omega) (by omega) (bits_congr (bits_set h4 p1) (fun j _ => by
        rw [show i + 1 - a = (i - a) + 1 by omega, anyE_s, show a + (i - a) = i by omega]))
      refine ⟨v', ?_, c2⟩
      rw [jfx_s, X6_pagesTold_F1, if_neg (nI_ge (by omega) (by omega)), told_e (by omega), ob_some, jlet_d, p2, show nI i + (1 : Int32) = nI (i + 1) from nI_1 _]
      exact c1
  exact key (b - a) 1000 a 0 (by omega) (Nat.le_refl _) (by omega) (bits_congr bits_0 (fun j _ => by rw [Nat.sub_self]; rfl))
theorem count_e (ht : TOLD I L s 1 N pg) (hN : N ≤ 40) {a b : Nat} (hab : a ≤ b) (hb : b ≤ N) : (X6_pagesTold 1 (nI a) (nI b) I).bind (fun y => J13_bitCount_95d88 y) = some (nI (dst pg a (b - a))) := by
  obtain ⟨v, e1, e2⟩ := pagesTold_e ht hN hab hb
  rw [e1, ob_some, bitCount_b e2, cntB_anyE (fun j hj => (ht (a + j) (by omega)).1)]
theorem tL (ht : TOLD I L s 1 N pg) {i : Nat} (hi : i < N) : L 172 (40 * s + i) = (nI (pg i)).toInt64 := by
  have := (ht i hi).2.2.2
  rw [Nat.one_mul] at this
  exact this
theorem unlike_e (ht : TOLD I L s 1 N pg) (hN : N ≤ 40) (hs : s < 8) {a b : Nat} (hab : a ≤ b) (hb : b ≤ N) : X7_unlike 164 (nI s) (nI a) (nI b) L = some (nI (dst pg a (b - a))) := by
  have in1 : ∀ i, a ≤ i → i < N → ∀ (k6 : Int32 → Option Int32) d n j, j + d = i → a ≤ j → d < n → jfx (X7_unlike_F1 164 (nI s) L (nI i) k6) (fun _ _ => none) n (if anyE pg a (j - a) (pg i) = true then 0 else 1) (nI j) = k6 (if anyE pg a (i - a) (pg i) = true then 0 else 1) := by
    intro i hi1 hi2 k6 d
    induction d with
    | zero =>
      intro n j h1 h2 h3
      obtain ⟨n, rfl⟩ : ∃ q, n = q + 1 := ⟨n - 1, by omega⟩
      rw [jfx_s, X7_unlike_F1, if_pos (nI_le (by omega) (by omega)), show j = i by omega]
    | succ d ih =>
      intro n j h1 h2 h3
      obtain ⟨n, rfl⟩ : ∃ q, n = q + 1 := ⟨n - 1, by omega⟩
      have hi := ih n (j + 1) (by omega) (by omega) (by omega)
      rw [show j + 1 - a = (j - a) + 1 by omega, anyE_s, show a + (j - a) = j by omega] at hi
      rw [jfx_s, X7_unlike_F1, if_neg (nI_ge (by omega) (by omega)), jlet_d, jlet_d, forty, forty, if_pos (jin_N (by omega) (by omega)), if_pos (jin_N (by omega) (by omega)), rMM.2.2.2.2.1, cl_N (by omega), cl_N (by omega), tL ht (by omega), tL ht hi2, show nI j + (1 : Int32) = nI (j + 1) from nI_1 _, ← hi]
      cases e : anyE pg a (j - a) (pg i) with
      | true => rw [if_pos rfl, if_pos rfl, Bool.true_or, if_pos rfl]
      | false =>
        rw [if_neg (show ¬ false = true by decide), if_neg (show ¬ (1 : Int32) = 0 by decide), Bool.false_or]
        by_cases c : pg j = pg i
        · rw [if_pos ((cmpI (ht j (by omega)).1 (ht i hi2).1).mpr c), if_pos (by simpa using c)]
        · rw [if_neg (fun z => c ((cmpI (ht j (by omega)).1 (ht i hi2).1).mp z)), if_neg (by simpa using c)]
  have key : ∀ d n i, i + d = b → a ≤ i → d < n → jfx (X7_unlike_F2 164 (nI s) (nI a) (nI b) L) (fun _ _ => none) n (nI (dst pg a (i - a))) (nI i) = some (nI (dst pg a (b - a))) := by
    intro d
    induction d with
    | zero =>
      intro n i h1 h2 h3
      obtain ⟨n, rfl⟩ : ∃ q, n = q + 1 := ⟨n - 1, by omega⟩
      rw [jfx_s, X7_unlike_F2, if_pos (nI_le (by omega) (by omega)), show i = b by omega]
    | succ d ih =>
      intro n i h1 h2 h3
      obtain ⟨n, rfl⟩ : ∃ q, n = q + 1 := ⟨n - 1, by omega⟩
      have hi := ih n (i + 1) (by omega) (by omega) (by omega)
      rw [show i + 1 - a = (i - a) + 1 by omega, dst_s, show a + (i - a) = i by omega] at hi
      have h0 := in1 i h2 (by omega) (fun (v5 : Int32) => jlet (if v5 = 0 then (0 : Int32) else (1 : Int32)) (fun (y8 : Int32) => jlet ((nI (dst pg a (i - a)) + y8)) (fun (y9 : Int32) => jfx (X7_unlike_F2 164 (nI s) (nI a) (nI b) L) (fun _ _ => none) n y9 (nI i + (1 : Int32))))) (i - a) 1000 a (by omega) (by omega) (by omega)
      rw [Nat.sub_self, show (if anyE pg a 0 (pg i) = true then (0 : Int32) else 1) = 1 from rfl] at h0
      rw [jfx_s, X7_unlike_F2, if_neg (nI_ge (by omega) (by omega)), jlet_d]
      refine h0.trans ?_
      rw [jlet_d, jlet_d, show nI i + (1 : Int32) = nI (i + 1) from nI_1 _, ← hi]
      cases e : anyE pg a (i - a) (pg i) with
      | true => rw [if_pos rfl, if_pos rfl, if_pos rfl, nI_a0]
      | false => rw [if_neg (show ¬ false = true by decide), if_neg (show ¬ (1 : Int32) = 0 by decide), if_neg (show ¬ false = true by decide), nI_1]
  have := key (b - a) 1000 a (by omega) (Nat.le_refl _) (by omega)
  rw [Nat.sub_self] at this
  exact this
theorem reuse_e (ht : TOLD I L s 1 N pg) (hN : N ≤ 40) (hs : s < 8) {i : Nat} (hi : i < N) : ∃ v, X6_reuseOf 1 (nI i) I = some v ∧ X7_reused 164 (nI s) (nI i) L = some v := by
  have key : ∀ j n, j ≤ i → j < n → ∃ v, jfx (X6_reuseOf_F1 1 (nI i) I (fun (v2 : Int32) =>
(X6_pagesTold 1 (v2 + (1 : Int32)) (nI i) I).bind (fun (y4 : Int64) =>
(J13_bitCount_95d88 y4).bind (fun (y6 : Int32) =>
some y6)))) (fun _ => none) n (nI j - 1) = some v ∧ jfx (X7_reused_F1 164 (nI s) L (nI (pg i)) (fun (v4 : Int32) =>
if 0 ≤ v4 then (
(X7_unlike 164 (nI s) (v4 + (1 : Int32)) (nI i) L).bind (fun (y7 : Int32) =>
some y7))
else (
some (-1 : Int32)))) (fun _ => none) n (nI j - 1) = some v := by
    intro j
    induction j with
    | zero =>
      intro n h1 h2
      obtain ⟨n, rfl⟩ : ∃ q, n = q + 1 := ⟨n - 1, by omega⟩
      refine ⟨-1, ?_, ?_⟩
      · rw [jfx_s, X6_reuseOf_F1, if_pos (by decide)]
      · rw [jfx_s, X7_reused_F1, if_pos (by decide)]
        rfl
    | succ j ih =>
      intro n h1 h2
      obtain ⟨n, rfl⟩ : ∃ q, n = q + 1 := ⟨n - 1, by omega⟩
      obtain ⟨p1, p2, -⟩ := ht j (by omega)
      obtain ⟨q1, q2, -⟩ := ht i hi
      by_cases e : pg j = pg i
      · refine ⟨nI (dst pg (j + 1) (i - (j + 1))), ?_, ?_⟩
        · have hc := count_e ht hN (show j + 1 ≤ i by omega) (show i ≤ N by omega)
          rw [jfx_s, X6_reuseOf_F1, nI_pred, if_neg (nI_pos (by omega)), told_e (by omega), ob_some, told_e (by omega), ob_some, p2, q2, if_pos (by rw [e]), nI_1]
          obtain ⟨v, e1, e2⟩ := pagesTold_e ht hN (show j + 1 ≤ i by omega) (show i ≤ N by omega)
          rw [e1, ob_some] at hc ⊢
          rw [hc, ob_some]
        · rw [jfx_s, X7_reused_F1, nI_pred, if_neg (nI_pos (by omega)), forty, if_pos (jin_N (by omega) (by omega)), rMM.2.2.2.2.1, cl_N (by omega), tL ht (by omega), if_pos ((cmpI p1 q1).mpr e), if_pos (nI_pos' (by omega)), nI_1, unlike_e ht hN hs (by omega) (by omega), ob_some]
      · obtain ⟨v, c1, c2⟩ := ih n (by omega) (by omega)
        refine ⟨v, ?_, ?_⟩
        · rw [jfx_s, X6_reuseOf_F1, nI_pred, if_neg (nI_pos (by omega)), told_e (by omega), ob_some, told_e (by omega), ob_some, p2, q2, if_neg (by rw [nI_eq (by omega) (by omega)]; exact e), sub1]
          exact c1
        · rw [jfx_s, X7_reused_F1, nI_pred, if_neg (nI_pos (by omega)), forty, if_pos (jin_N (by omega) (by omega)), rMM.2.2.2.2.1, cl_N (by omega), tL ht (by omega), if_neg (fun z => e ((cmpI p1 q1).mp z)), sub1]
          exact c2
  obtain ⟨v, c1, c2⟩ := key i 1000 (Nat.le_refl _) (by omega)
  refine ⟨v, ?_, ?_⟩
  · unfold X6_reuseOf
    rw [jlet_d, jlet_d]
    exact c1
  · unfold X7_reused
    rw [forty, if_pos (jin_N (by omega) (by omega)), jlet_d, jlet_d, jlet_d, rMM.2.2.2.2.1, cl_N (by omega), tL ht hi]
    rw [show ((nI (pg i)).toInt64).toInt32 = nI (pg i) from by rw [← tL ht hi]; have := (ht i hi).2.2.1; rw [Nat.one_mul] at this; exact this]
    exact c2
theorem great_R (ht : TOLD I L s 1 N pg) (hN : N ≤ 40) (hs : s < 8) (k10 : Int32 → Option (Int32 × jI)) : ∀ d n i (a : Int32), i + d = N → d < n → ∃ v, jfx (X6_greatestReuse_F1 1 (nI N) I) (fun _ _ => none) n a (nI i) = some v ∧ jfx (X7_rowOf_F3 164 (nI s) (nI N) (1 : Int32) L k10) (fun _ _ => none) n a (nI i) = k10 v := by
  intro d
  induction d with
  | zero =>
    intro n i a h1 h2
    obtain ⟨n, rfl⟩ : ∃ q, n = q + 1 := ⟨n - 1, by omega⟩
    refine ⟨a, ?_, ?_⟩
    · rw [jfx_s, X6_greatestReuse_F1, if_pos (nI_le (by omega) (by omega))]
    · rw [jfx_s, X7_rowOf_F3, if_pos (nI_le (by omega) (by omega))]
  | succ d ih =>
    intro n i a h1 h2
    obtain ⟨n, rfl⟩ : ∃ q, n = q + 1 := ⟨n - 1, by omega⟩
    obtain ⟨x, e1, e2⟩ := reuse_e ht hN hs (show i < N by omega)
    obtain ⟨v, c1, c2⟩ := ih n (i + 1) (jmax a x) (by omega) (by omega)
    refine ⟨v, ?_, ?_⟩
    · rw [jfx_s, X6_greatestReuse_F1, if_neg (nI_ge (by omega) (by omega)), e1, ob_some, jlet_d, nI_1]
      exact c1
    · rw [jfx_s, X7_rowOf_F3, if_neg (nI_ge (by omega) (by omega)), if_pos rfl, e2, ob_some, jlet_d, nI_1]
      exact c2
theorem times_e (ht : TOLD I L s 1 N pg) (hN : N ≤ 40) (hs : s < 8) {q : Nat} (hq : q < 64) (k7 : Int32 → Option Int32) (k22 : Int32 → Option (Int32 × jI)) : ∃ t, t ≤ N ∧ jfx (X6_oftenestTold_F1 1 (nI N) I (nI q) k7) (fun _ _ => none) 1000 (0 : Int32) (0 : Int32) = k7 (nI t) ∧ jfx (X7_rowOf_F1 164 (nI s) (nI N) L (nI q) k22) (fun _ _ => none) 1000 (0 : Int32) (0 : Int32) = k22 (nI t) := by
  have key : ∀ d n i t, i + d = N → d < n → t ≤ i → ∃ t', t' ≤ N ∧ jfx (X6_oftenestTold_F1 1 (nI N) I (nI q) k7) (fun _ _ => none) n (nI t) (nI i) = k7 (nI t') ∧ jfx (X7_rowOf_F1 164 (nI s) (nI N) L (nI q) k22) (fun _ _ => none) n (nI t) (nI i) = k22 (nI t') := by
    intro d
    induction d with
    | zero =>
      intro n i t h1 h2 h3
      obtain ⟨n, rfl⟩ : ∃ q, n = q + 1 := ⟨n - 1, by omega⟩
      refine ⟨t, by omega, ?_, ?_⟩
      · rw [jfx_s, X6_oftenestTold_F1, if_pos (nI_le (by omega) (by omega))]
      · rw [jfx_s, X7_rowOf_F1, if_pos (nI_le (by omega) (by omega))]
    | succ d ih =>
      intro n i t h1 h2 h3
      obtain ⟨n, rfl⟩ : ∃ q, n = q + 1 := ⟨n - 1, by omega⟩
      obtain ⟨p1, p2, -⟩ := ht i (by omega)
      have eC : jfx (X6_oftenestTold_F1 1 (nI N) I (nI q) k7) (fun _ _ => none) (n + 1) (nI t) (nI i) = jfx (X6_oftenestTold_F1 1 (nI N) I (nI q) k7) (fun _ _ => none) n (nI t + (if pg i = q then 1 else 0)) (nI (i + 1)) := by
        rw [jfx_s, X6_oftenestTold_F1, if_neg (nI_ge (by omega) (by omega)), told_e (by omega), ob_some, jlet_d, jlet_d, p2, nI_1]
        rw [ifc (show (nI (pg i) = nI q) ↔ (pg i = q) from nI_eq (by omega) (by omega))]
      have eM : jfx (X7_rowOf_F1 164 (nI s) (nI N) L (nI q) k22) (fun _ _ => none) (n + 1) (nI t) (nI i) = jfx (X7_rowOf_F1 164 (nI s) (nI N) L (nI q) k22) (fun _ _ => none) n (nI t + (if pg i = q then 1 else 0)) (nI (i + 1)) := by
        rw [jfx_s, X7_rowOf_F1, if_neg (nI_ge (by omega) (by omega)), forty, if_pos (jin_N (by omega) (by omega)), jlet_d, jlet_d, rMM.2.2.2.2.1, cl_N (by omega), tL ht (by omega), nI_1]
        rw [ifc (cmpI p1 hq)]
      rw [eC, eM]
      by_cases e : pg i = q
      · rw [if_pos e, nI_1]
        exact ih n (i + 1) (t + 1) (by omega) (by omega) (by omega)
      · rw [if_neg e, nI_a0]
        exact ih n (i + 1) t (by omega) (by omega) (by omega)
  exact key N 1000 0 0 (by omega) (by omega) (by omega)
theorem often_R (ht : TOLD I L s 1 N pg) (hN : N ≤ 40) (hs : s < 8) (k13 : Int32 → Int32 → Option (Int32 × jI)) : ∀ d n q (b : Int32) t, q + d = 64 → d < n → t ≤ N → ∃ v x, jfx (X6_oftenestTold_F2 1 (nI N) I) (fun _ _ _ => none) n b (nI t) (nI q) = some v ∧ jfx (X7_rowOf_F2 164 (nI s) (nI N) (2 : Int32) L k13) (fun _ _ _ => none) n b (nI t) (nI q) = k13 v x := by
  intro d
  induction d with
  | zero =>
    intro n q b t h1 h2 h3
    obtain ⟨n, rfl⟩ : ∃ q, n = q + 1 := ⟨n - 1, by omega⟩
    refine ⟨b, nI t, ?_, ?_⟩
    · rw [jfx_s, X6_oftenestTold_F2, if_pos (lle (64 : Int32) 64 rfl (by omega) (by omega))]
    · rw [jfx_s, X7_rowOf_F2, if_pos (lle (64 : Int32) 64 rfl (by omega) (by omega))]
  | succ d ih =>
    intro n q b t h1 h2 h3
    obtain ⟨n, rfl⟩ : ∃ q, n = q + 1 := ⟨n - 1, by omega⟩
    obtain ⟨t', ht', e1, e2⟩ := times_e ht hN hs (show q < 64 by omega) (fun (v6 : Int32) =>
jlet (fun (v8 : Int32) (v9 : Int32) =>
jfx (X6_oftenestTold_F2 1 (nI N) I) (fun _ _ _ => none) n v8 v9 (nI q + (1 : Int32))) (fun (k10 : Int32 → Int32 → Option (Int32)) =>
if v6 ≤ nI t then (
k10 b (nI t))
else (
k10 (nI q) v6))) (fun (v21 : Int32) =>
jlet (if v21 ≤ nI t then b else nI q) (fun (y24 : Int32) =>
jlet ((jmax (nI t) v21)) (fun (y25 : Int32) =>
jfx (X7_rowOf_F2 164 (nI s) (nI N) (2 : Int32) L k13) (fun _ _ _ => none) n y24 y25 (nI q + (1 : Int32)))))
    have cC : jfx (X6_oftenestTold_F2 1 (nI N) I) (fun _ _ _ => none) (n + 1) b (nI t) (nI q) = if t' ≤ t then jfx (X6_oftenestTold_F2 1 (nI N) I) (fun _ _ _ => none) n b (nI t) (nI (q + 1)) else jfx (X6_oftenestTold_F2 1 (nI N) I) (fun _ _ _ => none) n (nI q) (nI t') (nI (q + 1)) := by
      rw [jfx_s, X6_oftenestTold_F2, if_neg (lge (64 : Int32) 64 rfl (by omega) (by omega)), jlet_d]
      refine e1.trans ?_
      rw [jlet_d, nI_1, ifc (show (nI t' ≤ nI t) ↔ (t' ≤ t) from nI_leI (by omega) (by omega))]
    have cM : jfx (X7_rowOf_F2 164 (nI s) (nI N) (2 : Int32) L k13) (fun _ _ _ => none) (n + 1) b (nI t) (nI q) = jfx (X7_rowOf_F2 164 (nI s) (nI N) (2 : Int32) L k13) (fun _ _ _ => none) n (if t' ≤ t then b else nI q) (jmax (nI t) (nI t')) (nI (q + 1)) := by
      rw [jfx_s, X7_rowOf_F2, if_neg (lge (64 : Int32) 64 rfl (by omega) (by omega)), if_pos rfl, jlet_d]
      refine e2.trans ?_
      rw [jlet_d, jlet_d, nI_1]
      rw [ifc (show (nI t' ≤ nI t) ↔ (t' ≤ t) from nI_leI (by omega) (by omega))]
    rw [cC, cM]
    by_cases e : t' ≤ t
    · rw [if_pos e, if_pos e, show jmax (nI t) (nI t') = nI t from if_neg (nI_nlt (by omega) (by omega))]
      exact ih n (q + 1) b t (by omega) (by omega) h3
    · rw [if_neg e, if_neg e, show jmax (nI t) (nI t') = nI t' from if_pos (nI_lt (by omega) (by omega))]
      exact ih n (q + 1) _ t' (by omega) (by omega) ht'
end RU
section RO
variable {B cnt mode T : Nat} {S : Nat → Nat} {I : jI} {L : jL}
theorem t_reuse (h : GG B cnt mode T S I L) (x y z : Int32) : Two B L (fun I => X6_reuse 1 x y z I L) (fun I => X7_reuse 164 x y z I L) I := by
  rcases hear_c h x y 1 (Or.inr rfl) with ⟨r, I1, I2, r0, c1, c1', c2, c3, -, c5⟩ | ⟨-, s, zz, N, pg, I9, hs, rfl, rfl, hN, hz40, c1, c2, ht, hG, cM⟩
  · refine ⟨r, I1, I2, ?_, ?_, cnt, mode, T, S, c3.mono (by omega)⟩
    · show X6_reuse 1 x y z I L = _
      unfold X6_reuse
      rw [c1, jb2_some, if_neg r0]
    · show X7_reuse 164 x y z I1 L = _
      unfold X7_reuse
      rw [c5 rfl, ob_some, jlet_d, if_neg r0, if_neg r0, c2, jb2_some]
  · rcases wi_c z 0 (nI N - (1 : Int32)) 0 _ rfl (sub1_int (by omega)) with hz | ⟨hz, i, -, hi, -, rfl⟩
    · obtain ⟨I1, I2, a, b, g⟩ := rf_both hG 0 (by omega) (-52) rx0
      have hI1 : ∀ q, q ≠ 147 → q ≠ 146 → I1 q = I q := fun q hq hq2 => by
        rw [refuse_c 0 (by omega) (-52) rx0 I9] at a
        have := (Prod.mk.inj (Option.some.inj a)).2
        rw [← this, rT.2.2.1, jup_ne _ _ hq2, c2 q hq]
      refine ⟨-52, I1, I2, ?_, ?_, cnt, mode, T, S, g.mono (by omega)⟩
      · show X6_reuse 1 (nI s) (nI N) z I L = _
        unfold X6_reuse
        rw [c1, jb2_some, if_pos rfl, hz, ob_some, if_pos rfl, a, jb2_some]
      · show X7_reuse 164 (nI s) (nI N) z I1 L = _
        unfold X7_reuse
        rw [cM I1 (hI1 _ (by omega) (by omega)) (hI1 _ (by omega) (by omega)), ob_some, jlet_d, if_pos rfl, if_pos rfl, within_e z 0 _ 0 _ rfl rfl, hz, ob_some, if_pos rfl, b, jb2_some]
    · obtain ⟨v, e1, e2⟩ := reuse_e ht (by omega) hs (show i < N by omega)
      refine ⟨v, I9, I9, ?_, ?_, cnt, mode, T, S, hG.mono (by omega)⟩
      · show X6_reuse 1 (nI s) (nI N) (nI i) I L = _
        unfold X6_reuse
        rw [c1, jb2_some, if_pos rfl, hz, ob_some, if_neg (by decide), e1, ob_some]
      · show X7_reuse 164 (nI s) (nI N) (nI i) I9 L = _
        unfold X7_reuse
        rw [cM I9 (c2 _ (by omega)) (c2 _ (by omega)), ob_some, jlet_d, if_pos rfl, within_e _ 0 _ 0 _ rfl rfl, hz, ob_some, if_neg (by decide), e2, ob_some]
theorem t_rowOf (h : GG B cnt mode T S I L) (x y z : Int32) : Two B L (fun I => X6_rowOf 1 x y z I L) (fun I => X7_rowOf 164 x y z I L) I := by
  have fin : ∀ f, (f = 0 ∨ f = 1) → X6_isWithin z 0 2 = some f → Two B L (fun I => X6_rowOf 1 x y z I L) (fun I => X7_rowOf 164 x y z I L) I := by
    intro f hf hz
    rcases hear_c h x y f hf with ⟨r, I1, I2, r0, c1, -, c2, c3, c4, c5⟩ | ⟨rfl, s, zz, N, pg, I9, hs, rfl, rfl, hN, hz40, c1, c2, ht, hG, cM⟩
    · refine ⟨r, I1, I2, ?_, ?_, cnt, mode, T, S, c3.mono (by omega)⟩
      · show X6_rowOf 1 x y z I L = _
        unfold X6_rowOf
        rw [hz, ob_some, c1, jb2_some, if_neg r0]
      · show X7_rowOf 164 x y z I1 L = _
        unfold X7_rowOf
        rw [within_e z 0 2 0 2 rfl rfl, hz, ob_some, jlet_d]
        rcases hf with rfl | rfl
        · rw [if_pos rfl, ← c4 rfl]
          dsimp only
          rw [if_neg r0, c2, jb2_some]
        · rw [if_neg (by decide), c5 rfl, ob_some]
          dsimp only
          rw [if_neg r0, c2, jb2_some]
    · have hz2 : ∃ w, w ≤ 2 ∧ z = nI w := by
        rcases wi_c z 0 2 0 2 rfl rfl with q | ⟨-, w, -, hw, -, e⟩
        · rw [hz] at q; exact absurd (Option.some.inj q) (by decide)
        · exact ⟨w, by omega, e⟩
      obtain ⟨w, hw, rfl⟩ := hz2
      have hMw := cM I9 (c2 _ (by omega)) (c2 _ (by omega))
      have two : ∀ v, X6_rowOf 1 (nI s) (nI N) (nI w) I L = some (v, I9) → X7_rowOf 164 (nI s) (nI N) (nI w) I9 L = some (v, I9) → Two B L (fun I => X6_rowOf 1 (nI s) (nI N) (nI w) I L) (fun I => X7_rowOf 164 (nI s) (nI N) (nI w) I L) I := fun v z1 z2 => ⟨v, I9, I9, z1, z2, cnt, mode, T, S, hG.mono (by omega)⟩
      obtain rfl | rfl | rfl : w = 0 ∨ w = 1 ∨ w = 2 := by omega
      · refine two (nI (dst pg 0 (N - 0))) ?_ ?_
        · have hc := count_e ht (by omega) (show 0 ≤ N by omega) (Nat.le_refl N)
          obtain ⟨v, e1, e2⟩ := pagesTold_e ht (by omega) (show 0 ≤ N by omega) (Nat.le_refl N)
          rw [e1, ob_some] at hc
          unfold X6_rowOf
          rw [hz, ob_some, c1, jb2_some, if_pos rfl, if_pos n00, show X6_pagesTold 1 (0 : Int32) (nI N) I9 = some v from e1, ob_some, hc, ob_some]
        · unfold X7_rowOf
          rw [within_e _ 0 2 0 2 rfl rfl, hz, ob_some, jlet_d, if_neg (by decide), hMw, ob_some]
          dsimp only
          rw [if_pos rfl, if_pos n00, show X7_unlike 164 (nI s) (0 : Int32) (nI N) L = _ from unlike_e ht (by omega) hs (show 0 ≤ N by omega) (Nat.le_refl N), ob_some]
      · obtain ⟨v, e1, e2⟩ := great_R ht (by omega) hs (fun (v9 : Int32) =>
jlet (fun (v11 : Int32) (v12 : Int32) =>
if (1 : Int32) = (1 : Int32) then (
some (v12, I9))
else (
some (v11, I9))) (fun (k13 : Int32 → Int32 → Option (Int32 × jI)) =>
jfx (X7_rowOf_F2 164 (nI s) (nI N) (1 : Int32) L k13) (fun _ _ _ => none) 1000 (-1 : Int32) v9 (0 : Int32))) N 1000 0 (-1) (by omega) (by omega)
        refine two v ?_ ?_
        · unfold X6_rowOf X6_greatestReuse
          rw [hz, ob_some, c1, jb2_some, if_pos rfl, if_neg (show ¬ nI 1 = (0 : Int32) by decide), if_pos (show nI 1 = (1 : Int32) from rfl), show jfx (X6_greatestReuse_F1 1 (nI N) I9) (fun _ _ => none) 1000 (-1 : Int32) (0 : Int32) = some v from e1, ob_some]
        · unfold X7_rowOf
          rw [show nI 1 = (1 : Int32) from rfl] at hz ⊢
          rw [within_e _ 0 2 0 2 rfl rfl, hz, ob_some, jlet_d, if_neg (by decide), hMw, ob_some]
          dsimp only
          rw [if_pos rfl, if_neg (by decide), if_pos rfl, jlet_d, jlet_d]
          refine e2.trans ?_
          rw [jlet_d, show (1000 : Nat) = 999 + 1 from rfl, jfx_s, X7_rowOf_F2, if_neg (by decide), if_neg (by decide)]
          rfl
      · obtain ⟨v, xx, e1, e2⟩ := often_R ht (by omega) hs (fun (v11 : Int32) (v12 : Int32) =>
if (2 : Int32) = (1 : Int32) then (
some (v12, I9))
else (
some (v11, I9))) 64 1000 0 (-1) 0 (by omega) (by omega) (by omega)
        refine two v ?_ ?_
        · unfold X6_rowOf X6_oftenestTold
          rw [hz, ob_some, c1, jb2_some, if_pos rfl, if_neg (show ¬ nI 2 = (0 : Int32) by decide), if_neg (show ¬ nI 2 = (1 : Int32) by decide), show jfx (X6_oftenestTold_F2 1 (nI N) I9) (fun _ _ _ => none) 1000 (-1 : Int32) (0 : Int32) (0 : Int32) = some v from e1, ob_some]
        · unfold X7_rowOf
          rw [show nI 2 = (2 : Int32) from rfl] at hz ⊢
          rw [within_e _ 0 2 0 2 rfl rfl, hz, ob_some, jlet_d, if_neg (by decide), hMw, ob_some]
          dsimp only
          rw [if_pos rfl, if_neg (by decide), if_neg (by decide), jlet_d, jlet_d]
          have f3 : ∀ k10 : Int32 → Option (Int32 × jI), jfx (X7_rowOf_F3 164 (nI s) (nI N) (2 : Int32) L k10) (fun _ _ => none) 1000 (0 : Int32) (0 : Int32) = k10 0 := fun k10 => by
            rw [show (1000 : Nat) = 999 + 1 from rfl, jfx_s, X7_rowOf_F3]
            split
            · rfl
            · rw [if_neg (by decide)]
          rw [f3, jlet_d]
          refine e2.trans ?_
          rw [if_neg (by decide)]
  rcases wi_c z 0 2 0 2 rfl rfl with hz | ⟨hz, -⟩
  · exact fin 0 (Or.inl rfl) hz
  · exact fin 1 (Or.inr rfl) hz
end RO
