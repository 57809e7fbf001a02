/-! DIFFER and KEPT: on both sides -/
def nstP (m : Mn) (S : Nat → Nat) (q : Int32) : Nat → Option (Nat × Nat)
  | 0 => none
  | i + 1 => match nstP m S q i with
    | some x => some x
    | none => (fnd m i (S i) q).map (fun k => (i, k))
def anyD (m : Mn) (S : Nat → Nat) (q : Int32) : Nat → Bool
  | 0 => false
  | i + 1 => anyD m S q i || (match fnd m i (S i) q with
    | some k => decide (m (140 + 140 * i + 7 * k + 2) = 1)
    | none => false)
theorem nI_a0 (x : Nat) : nI x + (0 : Int32) = nI (x + 0) := nI_add x 0
theorem nstP_s {m : Mn} {S : Nat → Nat} {q : Int32} {i : Nat} : nstP m S q (i + 1) = match nstP m S q i with
    | some x => some x
    | none => (fnd m i (S i) q).map (fun k => (i, k)) := rfl
theorem anyD_s {m : Mn} {S : Nat → Nat} {q : Int32} {i : Nat} : anyD m S q (i + 1) = (anyD m S q i || (match fnd m i (S i) q with
    | some k => decide (m (140 + 140 * i + 7 * k + 2) = 1)
    | none => false)) := rfl
def vNst (m : Mn) (S : Nat → Nat) (q : Int32) (n : Nat) (v : Int32) : Int32 := match nstP m S q n with
  | some (l, k) => m (140 + 140 * l + 7 * k + 1)
  | none => v
theorem nstP_first {m : Mn} {S : Nat → Nat} {q : Int32} {j k : Nat} (h1 : ∀ l, l < j → fnd m l (S l) q = none) (h2 : fnd m j (S j) q = some k) : ∀ n, (n ≤ j → nstP m S q n = none) ∧ (j < n → nstP m S q n = some (j, k))
  | 0 => ⟨fun _ => rfl, fun h => by omega⟩
  | n + 1 => by
    obtain ⟨a, b⟩ := nstP_first h1 h2 n
    refine ⟨fun h => ?_, fun h => ?_⟩
    · rw [nstP_s, a (by omega), h1 n (by omega)]; rfl
    · by_cases e : n = j
      · subst e
        rw [nstP_s, a (Nat.le_refl _), h2]; rfl
      · rw [nstP_s, b (by omega)]
theorem nstP_none {m : Mn} {S : Nat → Nat} {q : Int32} : ∀ n, (∀ l, l < n → fnd m l (S l) q = none) → nstP m S q n = none
  | 0, _ => rfl
  | n + 1, h => by rw [nstP_s, nstP_none n (fun l hl => h l (by omega)), h n (by omega)]; rfl
theorem ndk_nI {m : Mn} {S : Nat → Nat} {q : Int32} : ∀ d i, (ndk m S q d i = none ↔ ∀ l k, i ≤ l → l < i + d → fnd m l (S l) q = some k → ¬ m (140 + 140 * l + 7 * k + 2) = 1)
  | 0, i => ⟨fun _ l k a b => by omega, fun _ => rfl⟩
  | d + 1, i => by
    have ih := ndk_nI (m := m) (S := S) (q := q) d (i + 1)
    cases hf : fnd m i (S i) q with
    | none =>
      rw [ndk_n hf, ih]
      refine ⟨fun h l k a b c => ?_, fun h l k a b c => h l k (by omega) (by omega) c⟩
      by_cases e : l = i
      · subst e; rw [hf] at c; cases c
      · exact h l k (by omega) (by omega) c
    | some k0 =>
      rw [ndk_k hf]
      by_cases e1 : m (140 + 140 * i + 7 * k0 + 2) = 1
      · rw [if_pos e1]
        exact ⟨fun h => (by cases h), fun h => absurd e1 (h i k0 (by omega) (by omega) hf)⟩
      · rw [if_neg e1, ih]
        refine ⟨fun h l k a b c => ?_, fun h l k a b c => h l k (by omega) (by omega) c⟩
        by_cases e : l = i
        · subst e; rw [hf] at c; cases c; exact e1
        · exact h l k (by omega) (by omega) c
theorem anyD_iff {m : Mn} {S : Nat → Nat} {q : Int32} : ∀ n, (anyD m S q n = false ↔ ∀ l k, l < n → fnd m l (S l) q = some k → ¬ m (140 + 140 * l + 7 * k + 2) = 1)
  | 0 => ⟨fun _ l k a => by omega, fun _ => rfl⟩
  | n + 1 => by
    have ih := anyD_iff (m := m) (S := S) (q := q) n
    rw [anyD_s, Bool.or_eq_false_iff, ih]
    constructor
    · rintro ⟨h1, h2⟩ l k a c
      by_cases e : l = n
      · subst e
        rw [c] at h2
        simpa using h2
      · exact h1 l k (by omega) c
    · intro h
      refine ⟨fun l k a c => h l k (by omega) c, ?_⟩
      cases hf : fnd m n (S n) q with
      | none => rfl
      | some k => simpa using h n k (by omega) hf
theorem pop_fin : ∀ x, x < 16 → J6_bitCount_0f7a4 (nI x) = some (nI (cntB (fun l => x.testBit l) 4)) := by decide +kernel
/-- how many levels have the page -/
def inC (m : Mn) (S : Nat → Nat) (cnt q : Nat) : Nat := cntB (fun l => (fnd m l (S l) (nI q)).isSome) cnt
theorem cntB_ext {P Q : Nat → Bool} {n : Nat} : ∀ {N : Nat}, n ≤ N → (∀ i, i < n → P i = Q i) → (∀ i, n ≤ i → i < N → P i = false) → cntB P N = cntB Q n
  | 0, h, h1, h2 => by rw [show n = 0 by omega]; rfl
  | N + 1, h, h1, h2 => by
    by_cases e : n = N + 1
    · subst e; exact cntB_congr h1
    · rw [cntB_s, h2 N (by omega) (by omega), if_neg (by decide), cntB_ext (by omega) h1 (fun i a b => h2 i a (by omega))]
      rfl
section DF
variable {B cnt mode T : Nat} {S : Nat → Nat} {I : jI} {L : jL}
theorem levs_G (h : GG B cnt mode T S I L) {q : Nat} (hq : q < 64) : X4_levelsWith 2 (nI q) I = some (nI (msk (I 165) S (nI q) cnt 0 0)) := levelsWith_e (B := B) (mode := mode) (T := T) OB2 hq h.1.1.1 h.1.2.1.1 h.1.2.2.1
theorem msk_G (h : GG B cnt mode T S I L) (q : Nat) : msk (I 165) S (nI q) cnt 0 0 < 16 := msk_lt (by have := h.1.1.1; omega) (by omega)
theorem pop_G (h : GG B cnt mode T S I L) (q : Nat) : J6_bitCount_0f7a4 (nI (msk (I 165) S (nI q) cnt 0 0)) = some (nI (inC (I 165) S cnt q)) := by
  rw [pop_fin _ (msk_G h q), cntB_ext (n := cnt) (N := 4) h.1.1.1 (fun i hi => msk_at hi) (fun i a _ => msk_no a)]
  rfl
theorem in_G (h : GG B cnt mode T S I L) (q : Nat) : X7_in 164 (nI q) I = some (nI (inC (I 165) S cnt q)) := by
  have hc4 := h.1.1.1
  have key : ∀ d n i, i + d = cnt → d < n → jfx (X7_in_F1 164 (nI q) I) (fun _ _ => none) n (nI (cntB (fun l => (fnd (I 165) l (S l) (nI q)).isSome) i)) (nI i) = some (nI (inC (I 165) S cnt q)) := by
    intro d
    induction d with
    | zero =>
      intro n i h1 h2
      obtain ⟨n, rfl⟩ : ∃ q, n = q + 1 := ⟨n - 1, by omega⟩
      rw [jfx_s, X7_in_F1, if_pos (by decide), rM0, show ((688 : Int32)).toNatClampNeg = 688 from rfl, h.1.2.1.2.1, if_pos (nI_le (by omega) (by omega)), show i = cnt by omega]
      rfl
    | succ d ih =>
      intro n i h1 h2
      obtain ⟨n, rfl⟩ : ∃ q, n = q + 1 := ⟨n - 1, by omega⟩
      have hi := ih n (i + 1) (by omega) (by omega)
      rw [cntB_s] at hi
      rw [jfx_s, X7_in_F1, if_pos (by decide), rM0, show ((688 : Int32)).toNatClampNeg = 688 from rfl, h.1.2.1.2.1, if_neg (nI_ge (by omega) (by omega)), found_G h (show i < cnt by omega) _ I rfl, ob_some, jlet_d, jlet_d, show nI i + (1 : Int32) = nI (i + 1) from nI_1 _, ← hi]
      rcases oI_c (fnd16 h (show i < cnt by omega) (nI q)) with ⟨q1, q2⟩ | ⟨k, q1, q2, q3⟩
      · rw [q2, q1, if_pos (by decide), if_neg (by decide), nI_a0]
      · rw [q3, q1, if_neg (nI_pos (by omega)), if_pos (by rfl), nI_1]
  exact key cnt 1000 0 (by omega) (by omega)
theorem isDiff_M (h : GG B cnt mode T S I L) (q : Nat) (k8 : Int32 → Int32 → Option Int32) : ∀ i n (v12 v13 : Int32), i ≤ cnt → i < n → (v12 = 0 ∨ v12 = 1) → jfx (X7_isDiffering_F1 164 (nI q) I k8) (fun _ _ _ => none) n v12 v13 (nI i - 1) = k8 (if v12 = 1 ∨ anyD (I 165) S (nI q) i = true then 1 else 0) (vNst (I 165) S (nI q) i v13) := by
  have hc4 := h.1.1.1
  intro i
  induction i with
  | zero =>
    intro n v12 v13 h1 h2 h3
    obtain ⟨n, rfl⟩ : ∃ q, n = q + 1 := ⟨n - 1, by omega⟩
    rw [jfx_s, X7_isDiffering_F1, if_pos (by decide)]
    show k8 v12 v13 = k8 (if v12 = 1 ∨ false = true then 1 else 0) v13
    rcases h3 with rfl | rfl <;> rfl
  | succ i ih =>
    intro n v12 v13 h1 h2 h3
    obtain ⟨n, rfl⟩ : ∃ q, n = q + 1 := ⟨n - 1, by omega⟩
    rw [nI_pred, jfx_s, X7_isDiffering_F1, if_neg (nI_pos (by omega)), found_G h (show i < cnt by omega) _ I rfl, ob_some, jlet_d, show nI i + (-1 : Int32) = nI i - 1 from sub1 _, anyD_s]
    unfold vNst
    rw [nstP_s]
    rcases oI_c (fnd16 h (show i < cnt by omega) (nI q)) with ⟨q1, q2⟩ | ⟨k, q1, q2, q3⟩
    · rw [q2, q1, if_pos (by decide)]
      refine (ih n v12 v13 (by omega) (by omega) h3).trans ?_
      unfold vNst
      cases hn : nstP (I 165) S (nI q) i with
      | none => simp only [Bool.or_false]; rfl
      | some x => simp only [Bool.or_false]
    · have hdd := (((h.1.2.2.1 i (by omega)).slot q2 (fnd_some q1).2.1) )
      rw [q3, q1, if_neg (nI_pos (by omega)), note_e 1 i k 1 rfl (by omega), ob_some, jlet_d, jlet_d, note_e 2 i k 2 rfl (by omega), ob_some]
      have e1 : vNst (I 165) S (nI q) i (I 165 (140 + 140 * i + 7 * k + 1)) = (match (match nstP (I 165) S (nI q) i with
            | some x => some x
            | none => (some k).map (fun k => (i, k))) with
          | some (l, k) => I 165 (140 + 140 * l + 7 * k + 1)
          | none => v13) := by
        unfold vNst
        cases hn : nstP (I 165) S (nI q) i <;> rfl
      rw [← e1]
      rcases h3 with rfl | rfl
      · rw [if_pos rfl]
        by_cases e2 : I 165 (140 + 140 * i + 7 * k + 2) = 1
        · rw [if_pos e2]
          refine (ih n 1 _ (by omega) (by omega) (Or.inr rfl)).trans ?_
          rw [if_pos (Or.inl rfl), if_pos (Or.inr (by simp [e2]))]
        · rw [if_neg e2]
          refine (ih n 0 _ (by omega) (by omega) (Or.inl rfl)).trans ?_
          simp only [decide_eq_false e2, Bool.or_false]
      · rw [if_neg (by decide)]
        refine (ih n 1 _ (by omega) (by omega) (Or.inr rfl)).trans ?_
        rw [if_pos (Or.inl rfl), if_pos (Or.inl rfl)]
/-- whether a page is one of those that differ -/
def dfP (m : Mn) (S : Nat → Nat) (cnt w q : Nat) : Bool := if w = 2 then decide (2 ≤ inC m S cnt q) else if w = 1 then anyD m S (nI q) cnt else !decide (vNst m S (nI q) cnt (m q) = m q)
theorem inC_le {m : Mn} {S : Nat → Nat} {cnt q : Nat} : inC m S cnt q ≤ cnt := cntB_le
theorem dfP2 {m : Mn} {S : Nat → Nat} {cnt q : Nat} : dfP m S cnt 2 q = decide (2 ≤ inC m S cnt q) := rfl
theorem dfP1 {m : Mn} {S : Nat → Nat} {cnt q : Nat} : dfP m S cnt 1 q = anyD m S (nI q) cnt := rfl
theorem dfP0 {m : Mn} {S : Nat → Nat} {cnt q : Nat} : dfP m S cnt 0 q = !decide (vNst m S (nI q) cnt (m q) = m q) := rfl
theorem differs_M (h : GG B cnt mode T S I L) {w q : Nat} (hq : q < 64) (hw : w ≤ 2) : X7_isDiffering 164 (nI q) (nI w) I = some (if dfP (I 165) S cnt w q = true then 1 else 0) := by
  have hc4 := h.1.1.1
  have hle := inC_le (m := I 165) (S := S) (cnt := cnt) (q := q)
  unfold X7_isDiffering
  obtain rfl | rfl | rfl : w = 2 ∨ w = 1 ∨ w = 0 := by omega
  · rw [if_pos (show nI 2 = (2 : Int32) from rfl), in_G h, ob_some, dfP2]
    by_cases e : inC (I 165) S cnt q ≤ 1
    · rw [if_pos (show nI _ ≤ (1 : Int32) from nI_le (b := 1) e (by omega)), if_neg (by simp; omega)]
    · rw [if_neg (show ¬ nI _ ≤ (1 : Int32) from nI_ge (a := 1) (by omega) (by omega)), if_pos (by simp; omega)]
  · rw [if_neg (show ¬ nI 1 = (2 : Int32) by decide), if_pos (jin_N (by omega) (by omega)), jlet_d, if_pos (by decide), jlet_d, jlet_d, rM0, show ((688 : Int32)).toNatClampNeg = 688 from rfl, h.1.2.1.2.1]
    refine (isDiff_M h q _ cnt 1000 0 _ (Nat.le_refl _) (by omega) (Or.inl rfl)).trans ?_
    rw [if_neg (show ¬ nI 1 = (0 : Int32) by decide), dfP1]
    cases anyD (I 165) S (nI q) cnt <;> rfl
  · rw [if_neg (show ¬ nI 0 = (2 : Int32) by decide), if_pos (jin_N (by omega) (by omega)), jlet_d, if_pos (by decide), jlet_d, jlet_d, rM0, show ((688 : Int32)).toNatClampNeg = 688 from rfl, h.1.2.1.2.1]
    refine (isDiff_M h q _ cnt 1000 0 _ (Nat.le_refl _) (by omega) (Or.inl rfl)).trans ?_
    rw [if_pos n00, if_pos (jin_N (by omega) (by omega)), cl_N (by omega), dfP0]
    by_cases e : vNst (I 165) S (nI q) cnt (I 165 q) = I 165 q
    · rw [if_pos e, if_neg (by simp [e])]
    · rw [if_neg e, if_pos (by simp [e])]
theorem nearW_j (h : GG B cnt mode T S I L) {q j k : Nat} (hq : q < 64) (hj : j < cnt) (hk : fnd (I 165) j (S j) (nI q) = some k) (hfirst : ∀ l, l < j → fnd (I 165) l (S l) (nI q) = none) : ∀ d n i, i + d = j → d < n → jfx (X4_nearestWith_F1 2 (nI q) I) (fun _ => none) n (nI (i + 1)) = some (2 + 10 + 9 * j) := by
  have hc4 := h.1.1.1
  have hI1 : I 2 1 = nI cnt := h.1.2.1.1
  intro d
  induction d with
  | zero =>
    intro n i h1 h2
    obtain ⟨n, rfl⟩ : ∃ q, n = q + 1 := ⟨n - 1, by omega⟩
    obtain rfl : i = j := by omega
    have hb := LB_o OB2 (show i < 4 by omega)
    have hk16 := fnd16 h hj (nI q) k hk
    rw [jfx_s, X4_nearestWith_F1, hI1, if_neg (nI_nlt (by omega) (by omega)), levelAt_e OB2 I hI1 hc4 hj, ob_some, jlet_d, if_neg hb.1, (h.1.2.2.1 i hj).slotOf hb hq, hk, ob_some, if_neg (show ¬ oI (some k) = (-1 : Int32) from m1_ne (by omega))]
  | succ d ih =>
    intro n i h1 h2
    obtain ⟨n, rfl⟩ : ∃ q, n = q + 1 := ⟨n - 1, by omega⟩
    have hb := LB_o OB2 (show i < 4 by omega)
    rw [jfx_s, X4_nearestWith_F1, hI1, if_neg (nI_nlt (by omega) (by omega)), levelAt_e OB2 I hI1 hc4 (show i < cnt by omega), ob_some, jlet_d, if_neg hb.1, (h.1.2.2.1 i (by omega)).slotOf hb hq, hfirst i (by omega), ob_some, if_pos (show oI none = (-1 : Int32) from rfl), show nI (i + 1) + (1 : Int32) = nI (i + 1 + 1) from nI_1 _]
    exact ih n (i + 1) (by omega) (by omega)
theorem nearW_0 (h : GG B cnt mode T S I L) {q : Nat} (hq : q < 64) (hno : ∀ l, l < cnt → fnd (I 165) l (S l) (nI q) = none) : ∀ d n i, i + d = cnt → d < n → jfx (X4_nearestWith_F1 2 (nI q) I) (fun _ => none) n (nI (i + 1)) = some 0 := by
  have hc4 := h.1.1.1
  have hI1 : I 2 1 = nI cnt := h.1.2.1.1
  intro d
  induction d with
  | zero =>
    intro n i h1 h2
    obtain ⟨n, rfl⟩ : ∃ q, n = q + 1 := ⟨n - 1, by omega⟩
    rw [jfx_s, X4_nearestWith_F1, hI1, if_pos (nI_lt (by omega) (by omega))]
  | succ d ih =>
    intro n i h1 h2
    obtain ⟨n, rfl⟩ : ∃ q, n = q + 1 := ⟨n - 1, by omega⟩
    have hb := LB_o OB2 (show i < 4 by omega)
    rw [jfx_s, X4_nearestWith_F1, hI1, if_neg (nI_nlt (by omega) (by omega)), levelAt_e OB2 I hI1 hc4 (show i < cnt by omega), ob_some, jlet_d, if_neg hb.1, (h.1.2.2.1 i (by omega)).slotOf hb hq, hno i (by omega), ob_some, if_pos (show oI none = (-1 : Int32) from rfl), show nI (i + 1) + (1 : Int32) = nI (i + 1 + 1) from nI_1 _]
    exact ih n (i + 1) (by omega) (by omega)
theorem differs_C (h : GG B cnt mode T S I L) {w q : Nat} (hq : q < 64) (hw : w ≤ 2) : X4_differs 2 (nI q) (nI w) I = some (if dfP (I 165) S cnt w q = true then 1 else 0) := by
  have hc4 := h.1.1.1
  have hle := inC_le (m := I 165) (S := S) (cnt := cnt) (q := q)
  have hm := msk_G h q
  have hI1 : I 2 1 = nI cnt := h.1.2.1.1
  unfold X4_differs
  obtain rfl | rfl | rfl : w = 2 ∨ w = 1 ∨ w = 0 := by omega
  · rw [if_pos (show nI 2 = (2 : Int32) from rfl), levs_G h hq, ob_some, pop_G h, ob_some, dfP2]
    by_cases e : inC (I 165) S cnt q ≤ 1
    · rw [if_pos (show nI _ ≤ (1 : Int32) from nI_le (b := 1) e (by omega)), if_neg (by simp; omega)]
    · rw [if_neg (show ¬ nI _ ≤ (1 : Int32) from nI_ge (a := 1) (by omega) (by omega)), if_pos (by simp; omega)]
  · rw [if_neg (show ¬ nI 1 = (2 : Int32) by decide), if_pos (show nI 1 = (1 : Int32) from rfl), dfP1]
    have hnd : X4_nearestDirty 2 1 (I 2 1) (nI q) I = some (lvR 2 (ndk (I 165) S (nI q) cnt 0)) := by
      unfold X4_nearestDirty
      rw [hI1]
      by_cases e : cnt = 0
      · subst e
        rw [show (1000 : Nat) = 999 + 1 from rfl, jfx_s, X4_nearestDirty_F1, if_pos (by decide)]
        rfl
      · obtain ⟨c, rfl⟩ : ∃ c, cnt = c + 1 := ⟨cnt - 1, by omega⟩
        exact nearD_e OB2 hc4 hI1 (show c < c + 1 by omega) hq (c + 1) 1000 0 (by omega) (by omega) (fun j _ hj => h.1.2.2.1 j (by omega))
    rw [hnd, ob_some]
    have h1 := ndk_nI (m := I 165) (S := S) (q := nI q) cnt 0
    have h2 := anyD_iff (m := I 165) (S := S) (q := nI q) cnt
    cases ha : anyD (I 165) S (nI q) cnt with
    | false =>
      rw [h1.mpr (fun l k _ b c => h2.mp ha l k (by omega) c)]
      rfl
    | true =>
      cases hn : ndk (I 165) S (nI q) cnt 0 with
      | none =>
        rw [h2.mpr (fun l k b c => h1.mp hn l k (by omega) (by omega) c)] at ha
        cases ha
      | some x =>
        rw [if_neg (by unfold lvR; dsimp only; omega)]
        rfl
  · rw [if_neg (show ¬ nI 0 = (2 : Int32) by decide), if_neg (show ¬ nI 0 = (1 : Int32) by decide), dfP0]
    by_cases e : ∃ j, j < cnt ∧ (fnd (I 165) j (S j) (nI q)).isSome = true ∧ ∀ l, l < j → fnd (I 165) l (S l) (nI q) = none
    · obtain ⟨j, hj, hs, hfirst⟩ := e
      obtain ⟨k, hk⟩ := Option.isSome_iff_exists.mp hs
      have hL := h.1.2.2.1 j hj
      have hb := LB_o OB2 (show j < 4 by omega)
      have hk16 := fnd16 h hj (nI q) k hk
      have hW : X4_nearestWith 2 (nI q) I = some (2 + 10 + 9 * j) := nearW_j h hq hj hk hfirst j 1000 0 (by omega) (by omega)
      rw [hW, ob_some, if_neg hb.1, hL.slotOf hb hq, ob_some, hk, show oI (some k) = nI k from rfl, valueIn_e hb hk16, ob_some, inMem_e OB2 hq, ob_some, (hL.slot hk16 (fnd_some hk).2.1 hq).2.2.1, h.1.2.2.2.1.1 q hq]
      unfold vNst
      rw [(nstP_first hfirst hk cnt).2 hj]
      dsimp only
      by_cases e : I 165 (140 + 140 * j + 7 * k + 1) = I 165 q
      · rw [if_pos e, if_neg (by simp [e])]
      · rw [if_neg e, if_pos (by simp [e])]
    · have hno : ∀ l, l < cnt → fnd (I 165) l (S l) (nI q) = none := by
        intro l
        induction l using Nat.strongRecOn with
        | _ l ih =>
          intro hl
          cases hf : fnd (I 165) l (S l) (nI q) with
          | none => rfl
          | some k => exact absurd ⟨l, hl, by rw [hf]; rfl, fun l' hl' => ih l' hl' (by omega)⟩ e
      have hW : X4_nearestWith 2 (nI q) I = some 0 := nearW_0 h hq hno cnt 1000 0 (by omega) (by omega)
      rw [hW, ob_some, if_pos rfl]
      unfold vNst
      rw [nstP_none cnt hno]
      simp
theorem t_differ (h : GG B cnt mode T S I L) (x : Int32) : Two B L (X6_differ 1 x) (X7_differ 164 x) I := by
  rcases wi_c x 0 2 0 2 rfl rfl with hx | ⟨hx, w, -, hw, -, rfl⟩
  · exact Two.refF (fun y => (y).toInt64 - (9000000000000000000 : Int64)) h 0 (by omega) (-52) rx0 (by unfold X6_differ; rw [hx, ob_some, if_pos rfl]) (fun J _ => by unfold X7_differ; rw [within_e x 0 2 0 2 rfl rfl, hx, ob_some, if_pos rfl])
  have hw2 : w ≤ 2 := by omega
  refine Two.same h (orB (dfP (I 165) S cnt w) 64 0 0) ?_ ?_
  · unfold X6_differ
    rw [hx, ob_some, if_neg (by decide)]
    have key : ∀ d n q (v : Int64), q + d = 64 → d < n → jfx (X6_differ_F1 1 (nI w) I) (fun _ _ => none) n v (nI q) = some (orB (dfP (I 165) S cnt w) d q v, I) := by
      intro d
      induction d with
      | zero =>
        intro n q v h1 h2
        obtain ⟨n, rfl⟩ : ∃ q, n = q + 1 := ⟨n - 1, by omega⟩
        rw [jfx_s, X6_differ_F1, if_pos (lle (64 : Int32) 64 rfl (by omega) (by omega))]
        rfl
      | succ d ih =>
        intro n q v h1 h2
        obtain ⟨n, rfl⟩ : ∃ q, n = q + 1 := ⟨n - 1, by omega⟩
        rw [jfx_s, X6_differ_F1, if_neg (lge (64 : Int32) 64 rfl (by omega) (by omega)), rR.1, differs_C h (by omega) hw2, ob_some, jlet_d, jlet_d, show nI q + (1 : Int32) = nI (q + 1) from nI_1 _, orB_s]
        by_cases e : dfP (I 165) S cnt w q = true
        · rw [if_pos e, if_pos e, if_neg (by decide)]; exact ih n (q + 1) _ (by omega) (by omega)
        · rw [if_neg e, if_neg e, if_pos rfl]; exact ih n (q + 1) _ (by omega) (by omega)
    exact key 64 1000 0 0 (by omega) (by omega)
  · unfold X7_differ
    rw [within_e _ 0 2 0 2 rfl rfl, hx, ob_some, if_neg (by decide)]
    have key : ∀ d n q (v : Int64), q + d = 64 → d < n → jfx (X7_differ_F1 164 (nI w) I) (fun _ _ => none) n v (nI q) = some (orB (dfP (I 165) S cnt w) d q v, I) := by
      intro d
      induction d with
      | zero =>
        intro n q v h1 h2
        obtain ⟨n, rfl⟩ : ∃ q, n = q + 1 := ⟨n - 1, by omega⟩
        rw [jfx_s, X7_differ_F1, if_pos (lle (64 : Int32) 64 rfl (by omega) (by omega))]
        rfl
      | succ d ih =>
        intro n q v h1 h2
        obtain ⟨n, rfl⟩ : ∃ q, n = q + 1 := ⟨n - 1, by omega⟩
        rw [jfx_s, X7_differ_F1, if_neg (lge (64 : Int32) 64 rfl (by omega) (by omega)), differs_M h (by omega) hw2, ob_some, jlet_d, jlet_d, show nI q + (1 : Int32) = nI (q + 1) from nI_1 _, orB_s]
        by_cases e : dfP (I 165) S cnt w q = true
        · rw [if_pos e, if_pos e, if_neg (by decide)]; exact ih n (q + 1) _ (by omega) (by omega)
        · rw [if_neg e, if_neg e, if_pos rfl, or0]; exact ih n (q + 1) _ (by omega) (by omega)
    exact key 64 1000 0 0 (by omega) (by omega)
end DF
