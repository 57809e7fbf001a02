/-! KEPT and STATUS: on both sides -/
def allB (P : Nat → Bool) : Nat → Nat → Bool
  | 0, _ => true
  | d + 1, i => P i && allB P d (i + 1)
theorem allB_s {P : Nat → Bool} {d i : Nat} : allB P (d + 1) i = (P i && allB P d (i + 1)) := rfl
def incA (m : Mn) (S : Nat → Nat) (q : Int32) : Nat → Nat → Bool
  | 0, _ => true
  | d + 1, i => (!(fnd m i (S i) q).isSome || (fnd m (i + 1) (S (i + 1)) q).isSome) && incA m S q d (i + 1)
theorem incA_s {m : Mn} {S : Nat → Nat} {q : Int32} {d i : Nat} : incA m S q (d + 1) i = ((!(fnd m i (S i) q).isSome || (fnd m (i + 1) (S (i + 1)) q).isSome) && incA m S q d (i + 1)) := rfl
theorem incA_iff {m : Mn} {S : Nat → Nat} {q : Int32} : ∀ d i, (incA m S q d i = true ↔ ∀ l, i ≤ l → l < i + d → (fnd m l (S l) q).isSome = true → (fnd m (l + 1) (S (l + 1)) q).isSome = true)
  | 0, i => ⟨fun _ l a b => by omega, fun _ => rfl⟩
  | d + 1, i => by
    rw [incA_s, Bool.and_eq_true, incA_iff d (i + 1)]
    constructor
    · rintro ⟨h1, h2⟩ l a b c
      by_cases e : l = i
      · subst e
        rw [c] at h1
        simpa using h1
      · exact h2 l (by omega) (by omega) c
    · intro h
      refine ⟨?_, fun l a b c => h l (by omega) (by omega) c⟩
      cases e : (fnd m i (S i) q).isSome with
      | false => rfl
      | true => rw [h i (by omega) (by omega) e]; rfl
def incX (x c : Nat) : Bool := (List.range 3).all (fun l => !(decide (l + 1 < c) && x.testBit l) || x.testBit (l + 1))
theorem incX_iff {x c : Nat} : incX x c = true ↔ (∀ l, l < 3 → l + 1 < c → x.testBit l = true → x.testBit (l + 1) = true) := by
  unfold incX
  rw [List.all_eq_true]
  constructor
  · intro h l a b c
    have := h l (List.mem_range.mpr a)
    rw [decide_eq_true b, c] at this
    simpa using this
  · intro h l hl
    have := h l (List.mem_range.mp hl)
    by_cases a : l + 1 < c
    · rw [decide_eq_true a]
      cases b : x.testBit l with
      | false => rfl
      | true => rw [this a b]; rfl
    · rw [decide_eq_false a]; rfl
theorem ifc {α : Type} {P Q : Prop} [Decidable P] [Decidable Q] (h : P ↔ Q) {a b : α} : (if P then a else b) = if Q then a else b := by
  by_cases p : P
  · rw [if_pos p, if_pos (h.mp p)]
  · rw [if_neg p, if_neg (fun q => p (h.mpr q))]
theorem inc_fin : ∀ x, x < 16 → ∀ c, c < 5 → (if (((nI x <<< ((1 : Int32) &&& 31)) &&& (nI x ^^^ (-1 : Int32))) &&& (((1 : Int32) <<< (nI c &&& 31)) - (1 : Int32))) = 0 then (1 : Nat) else 0) = (if incX x c = true then 1 else 0) := by decide +kernel
def kpB (m : Mn) (S : Nat → Nat) (cnt mode q : Nat) : Bool := if mode = 1 then incA m S (nI q) (cnt - 1) 0 else if mode = 2 then decide (inC m S cnt q ≤ 1) else true
theorem kpB1 {m : Mn} {S : Nat → Nat} {cnt q : Nat} : kpB m S cnt 1 q = incA m S (nI q) (cnt - 1) 0 := rfl
theorem kpB2 {m : Mn} {S : Nat → Nat} {cnt q : Nat} : kpB m S cnt 2 q = decide (inC m S cnt q ≤ 1) := rfl
theorem kpB0 {m : Mn} {S : Nat → Nat} {cnt q : Nat} : kpB m S cnt 0 q = true := rfl
section KP
variable {B cnt mode T : Nat} {S : Nat → Nat} {I : jI} {L : jL}
theorem inc_G (h : GG B cnt mode T S I L) (q : Nat) : ((((nI (msk (I 165) S (nI q) cnt 0 0) <<< ((1 : Int32) &&& 31)) &&& (nI (msk (I 165) S (nI q) cnt 0 0) ^^^ (-1 : Int32))) &&& (((1 : Int32) <<< (nI cnt &&& 31)) - (1 : Int32))) = 0) ↔ incA (I 165) S (nI q) (cnt - 1) 0 = true := by
  have hc4 := h.1.1.1
  have hf := inc_fin _ (msk_G h q) cnt (by omega)
  rw [incA_iff]
  have e2 : (∀ l, l < 3 → l + 1 < cnt → (msk (I 165) S (nI q) cnt 0 0).testBit l = true → (msk (I 165) S (nI q) cnt 0 0).testBit (l + 1) = true) ↔ (∀ l, 0 ≤ l → l < 0 + (cnt - 1) → (fnd (I 165) l (S l) (nI q)).isSome = true → (fnd (I 165) (l + 1) (S (l + 1)) (nI q)).isSome = true) := by
    constructor
    · intro z l _ b c
      have := z l (by omega) (by omega) (by rw [msk_at (by omega)]; exact c)
      rw [msk_at (by omega)] at this
      exact this
    · intro z l a b c
      rw [msk_at (by omega)] at c ⊢
      exact z l (by omega) (by omega) c
  rw [← e2, ← incX_iff]
  by_cases e3 : incX (msk (I 165) S (nI q) cnt 0 0) cnt = true
  · rw [if_pos e3] at hf
    refine ⟨fun _ => e3, fun _ => ?_⟩
    refine Decidable.byContradiction (fun hn => ?_)
    rw [if_neg hn] at hf
    cases hf
  · rw [if_neg e3] at hf
    refine ⟨fun hp => ?_, fun hp => absurd hp e3⟩
    rw [if_pos hp] at hf
    cases hf
theorem kept_C (h : GG B cnt mode T S I L) : X6_kept 1 I = some (if allB (kpB (I 165) S cnt mode) 64 0 = true then 1 else 0) := by
  have hc4 := h.1.1.1
  have hmode := h.1.1.2.1
  have key : ∀ d n q, q + d = 64 → d < n → jfx (X4_keepsMode_F1 2 I) (fun _ => none) n (nI q) = some (if allB (kpB (I 165) S cnt mode) d q = true then 1 else 0) := by
    intro d
    induction d with
    | zero =>
      intro n q h1 h2
      obtain ⟨n, rfl⟩ : ∃ q, n = q + 1 := ⟨n - 1, by omega⟩
      rw [jfx_s, X4_keepsMode_F1, if_pos (lle (64 : Int32) 64 rfl (by omega) (by omega))]
      rfl
    | succ d ih =>
      intro n q h1 h2
      obtain ⟨n, rfl⟩ : ∃ q, n = q + 1 := ⟨n - 1, by omega⟩
      have hle := inC_le (m := I 165) (S := S) (cnt := cnt) (q := q)
      have hG := inc_G h q
      rw [jfx_s, X4_keepsMode_F1, if_neg (lge (64 : Int32) 64 rfl (by omega) (by omega)), levs_G h (by omega), ob_some, jlet_d, jlet_d, show nI q + (1 : Int32) = nI (q + 1) from nI_1 _, h.1.2.1.2.2.1, h.1.2.1.1, allB_s, ih n (q + 1) (by omega) (by omega)]
      obtain rfl | rfl | rfl : mode = 0 ∨ mode = 1 ∨ mode = 2 := by omega
      · rw [if_neg (show ¬ nI 0 = (1 : Int32) by decide), if_neg (show ¬ nI 0 = (2 : Int32) by decide), kpB0, Bool.true_and]
      · rw [if_pos (show nI 1 = (1 : Int32) from rfl), if_neg (show ¬ nI 1 = (2 : Int32) by decide), kpB1]
        by_cases e : incA (I 165) S (nI q) (cnt - 1) 0 = true
        · rw [if_pos (hG.mpr e), e, Bool.true_and]
          split <;> rfl
        · rw [if_neg (fun z => e (hG.mp z)), show incA (I 165) S (nI q) (cnt - 1) 0 = false by simpa using e, Bool.false_and]
          by_cases e0 : nI (msk (I 165) S (nI q) cnt 0 0) = 0
          · refine absurd (hG.mp ?_) e
            rw [e0]
            simp
          · rw [if_neg e0]
            rfl
      · rw [if_neg (show ¬ nI 2 = (1 : Int32) by decide), if_pos (show nI 2 = (2 : Int32) from rfl), pop_G h, ob_some, kpB2]
        by_cases e : inC (I 165) S cnt q ≤ 1
        · rw [if_pos (show nI _ ≤ (1 : Int32) from nI_le (b := 1) e (by omega)), decide_eq_true e, Bool.true_and]
        · rw [if_neg (show ¬ nI _ ≤ (1 : Int32) from nI_ge (a := 1) (by omega) (by omega)), decide_eq_false e, Bool.false_and]
          rfl
  unfold X6_kept X4_keepsMode
  rw [rR.1, show jfx (X4_keepsMode_F1 2 I) (fun _ => none) 1000 (0 : Int32) = _ from key 64 1000 0 (by omega) (by omega), ob_some]
  split <;> rfl
theorem kept_F1 (h : GG B cnt mode T S I L) (q : Nat) (k12 : Int32 → Option Int32) : ∀ d n i (v : Int32), (i + d + 1 = cnt ∨ (d = 0 ∧ cnt ≤ i + 1 ∧ i < 100)) → d < n → (v = 0 ∨ v = 1) → jfx (X7_kept_F1 164 I (nI q) k12) (fun _ _ => none) n v (nI i) = k12 (if v = 1 ∧ (mode = 1 → incA (I 165) S (nI q) d i = true) then 1 else 0) := by
  have hc4 := h.1.1.1
  have hmode := h.1.1.2.1
  intro d
  induction d with
  | zero =>
    intro n i v h1 h2 h3
    obtain ⟨n, rfl⟩ : ∃ q, n = q + 1 := ⟨n - 1, by omega⟩
    rw [jfx_s, X7_kept_F1, if_pos (by decide), rM0, show ((688 : Int32)).toNatClampNeg = 688 from rfl, h.1.2.1.2.1, show nI i + (1 : Int32) = nI (i + 1) from nI_1 _]
    rw [if_pos (nI_le (by omega) (by omega))]
    rcases h3 with rfl | rfl
    · rw [if_neg (fun z => absurd z.1 (by decide))]
    · rw [if_pos ⟨rfl, fun _ => rfl⟩]
  | succ d ih =>
    intro n i v h1 h2 h3
    obtain ⟨n, rfl⟩ : ∃ q, n = q + 1 := ⟨n - 1, by omega⟩
    rw [jfx_s, X7_kept_F1, if_pos (by decide), rM0, show ((688 : Int32)).toNatClampNeg = 688 from rfl, show ((689 : Int32)).toNatClampNeg = 689 from rfl, h.1.2.1.2.1, h.1.2.1.2.2.2.1, show nI i + (1 : Int32) = nI (i + 1) from nI_1 _, if_neg (nI_ge (by omega) (by omega)), if_pos (by decide)]
    by_cases hm : mode = 1
    · subst hm
      rw [if_pos (show nI 1 = (1 : Int32) from rfl), jlet_d, jlet_d, incA_s]
      rcases h3 with rfl | rfl
      · rw [if_pos rfl]
        refine (ih n (i + 1) 0 (by omega) (by omega) (Or.inl rfl)).trans ?_
        rw [if_neg (fun z => absurd z.1 (by decide)), if_neg (fun z => absurd z.1 (by decide))]
      · rw [if_neg (by decide), found_G h (show i < cnt by omega) _ I rfl, ob_some, jlet_d, found_G h (show i + 1 < cnt by omega) _ I rfl, ob_some]
        rcases oI_c (fnd16 h (show i < cnt by omega) (nI q)) with ⟨q1, q2⟩ | ⟨k, q1, q2, q3⟩
        · rw [q2, q1, if_pos (by decide)]
          refine (ih n (i + 1) 1 (by omega) (by omega) (Or.inr rfl)).trans ?_
          rfl
        · rw [q3, q1, if_neg (nI_pos (by omega))]
          rcases oI_c (fnd16 h (show i + 1 < cnt by omega) (nI q)) with ⟨p1, p2⟩ | ⟨k', p1, p2, p3⟩
          · rw [p2, p1, if_pos (by decide)]
            refine (ih n (i + 1) 0 (by omega) (by omega) (Or.inl rfl)).trans ?_
            rw [if_neg (fun z => absurd z.1 (by decide)), if_neg (fun z => absurd (z.2 rfl) (by simp))]
          · rw [p3, p1, if_neg (nI_pos (by omega))]
            refine (ih n (i + 1) 1 (by omega) (by omega) (Or.inr rfl)).trans ?_
            rfl
    · rw [if_neg (fun z => hm ((nI_eq (by omega) (by omega)).mp (z.trans (show (1 : Int32) = nI 1 from rfl))))]
      rcases h3 with rfl | rfl
      · rw [if_neg (fun z => absurd z.1 (by decide))]
      · rw [if_pos ⟨rfl, fun z => absurd z hm⟩]
theorem kept_M (h : GG B cnt mode T S I L) : X7_kept 164 I = some (if allB (kpB (I 165) S cnt mode) 64 0 = true then 1 else 0) := by
  have hc4 := h.1.1.1
  have hmode := h.1.1.2.1
  have f1 : ∀ (q : Nat) (k12 : Int32 → Option Int32) (v : Int32), (v = 0 ∨ v = 1) → jfx (X7_kept_F1 164 I (nI q) k12) (fun _ _ => none) 1000 v (0 : Int32) = k12 (if v = 1 ∧ (mode = 1 → incA (I 165) S (nI q) (cnt - 1) 0 = true) then 1 else 0) := fun q k12 v hv => kept_F1 h q k12 (cnt - 1) 1000 0 v (by omega) (by omega) hv
  have key : ∀ (k2 : Int32 → Option Int32) d n q (v : Int32), q + d = 64 → d < n → (v = 0 ∨ v = 1) → jfx (X7_kept_F2 164 I k2) (fun _ _ => none) n v (nI q) = k2 (if v = 1 ∧ allB (kpB (I 165) S cnt mode) d q = true then 1 else 0) := by
    intro k2 d
    induction d with
    | zero =>
      intro n q v h1 h2 h3
      obtain ⟨n, rfl⟩ : ∃ q, n = q + 1 := ⟨n - 1, by omega⟩
      rw [jfx_s, X7_kept_F2, if_pos (lle (64 : Int32) 64 rfl (by omega) (by omega))]
      rcases h3 with rfl | rfl
      · rw [if_neg (fun z => absurd z.1 (by decide))]
      · rw [if_pos ⟨rfl, rfl⟩]
    | succ d ih =>
      intro n q v h1 h2 h3
      obtain ⟨n, rfl⟩ : ∃ q, n = q + 1 := ⟨n - 1, by omega⟩
      have hle := inC_le (m := I 165) (S := S) (cnt := cnt) (q := q)
      have k10 : ∀ v9 : Int32, (v9 = 0 ∨ v9 = 1) → jlet (fun (v11 : Int32) => jfx (X7_kept_F2 164 I k2) (fun _ _ => none) n v11 (nI q + (1 : Int32))) (fun (k12 : Int32 → Option (Int32)) => jfx (X7_kept_F1 164 I (nI q) k12) (fun _ _ => none) 1000 v9 (0 : Int32)) = k2 (if (v9 = 1 ∧ (mode = 1 → incA (I 165) S (nI q) (cnt - 1) 0 = true)) ∧ allB (kpB (I 165) S cnt mode) d (q + 1) = true then 1 else 0) := fun v9 h9 => by
        rw [jlet_d, f1 q _ v9 h9, show nI q + (1 : Int32) = nI (q + 1) from nI_1 _]
        refine (ih n (q + 1) _ (by omega) (by omega) (by split <;> simp)).trans ?_
        by_cases e : v9 = 1 ∧ (mode = 1 → incA (I 165) S (nI q) (cnt - 1) 0 = true)
        · rw [if_pos e]
          exact congrArg k2 (ifc ⟨fun z => ⟨e, z.2⟩, fun z => ⟨rfl, z.2⟩⟩)
        · rw [if_neg e, if_neg (fun z => absurd z.1 (by decide)), if_neg (fun z => e z.1)]
      rw [jfx_s, X7_kept_F2, if_neg (lge (64 : Int32) 64 rfl (by omega) (by omega)), if_pos (by decide), jlet_d, rM0, show ((689 : Int32)).toNatClampNeg = 689 from rfl, h.1.2.1.2.2.2.1, allB_s]
      obtain rfl | rfl | rfl : mode = 0 ∨ mode = 1 ∨ mode = 2 := by omega
      · rw [if_neg (show ¬ nI 0 = (2 : Int32) by decide)]
        refine (k10 v h3).trans ?_
        rw [kpB0, Bool.true_and]
        exact congrArg k2 (ifc (by simp))
      · rw [if_neg (show ¬ nI 1 = (2 : Int32) by decide)]
        refine (k10 v h3).trans ?_
        rw [kpB1]
        exact congrArg k2 (ifc (by simp [and_assoc]))
      · rw [if_pos (show nI 2 = (2 : Int32) from rfl), jlet_d, jlet_d, kpB2]
        rcases h3 with rfl | rfl
        · rw [if_pos rfl]
          refine (k10 0 (Or.inl rfl)).trans ?_
          rw [if_neg (fun z => absurd z.1.1 (by decide)), if_neg (fun z => absurd z.1 (by decide))]
        · rw [if_neg (by decide), in_G h, ob_some]
          by_cases e : inC (I 165) S cnt q ≤ 1
          · rw [if_neg (show ¬ (2 : Int32) ≤ nI _ from nI_ge (b := 2) (by omega) (by omega))]
            refine (k10 1 (Or.inr rfl)).trans ?_
            rw [decide_eq_true e, Bool.true_and]
            exact congrArg k2 (ifc (by simp))
          · rw [if_pos (show (2 : Int32) ≤ nI _ from nI_le (a := 2) (by omega) (by omega))]
            refine (k10 0 (Or.inl rfl)).trans ?_
            rw [decide_eq_false e, if_neg (fun z => absurd z.1.1 (by decide)), if_neg (fun z => absurd z.2 (by simp))]
  unfold X7_kept
  rw [jlet_d]
  refine (key _ 64 1000 0 1 (by omega) (by omega) (Or.inr rfl)).trans ?_
  by_cases e : allB (kpB (I 165) S cnt mode) 64 0 = true
  · have : (if (1 : Int32) = 1 ∧ allB (kpB (I 165) S cnt mode) 64 0 = true then (1 : Int32) else 0) = 1 := if_pos ⟨rfl, e⟩
    rw [this, if_pos e]; rfl
  · have : (if (1 : Int32) = 1 ∧ allB (kpB (I 165) S cnt mode) 64 0 = true then (1 : Int32) else 0) = 0 := if_neg (fun z => e z.2)
    rw [this, if_neg e]; rfl
theorem t_kept (h : GG B cnt mode T S I L) : ∃ v, X6_kept 1 I = some v ∧ X7_kept 164 I = some v := ⟨_, kept_C h, kept_M h⟩
theorem hold_c {s : Nat} (h : SHF cnt I L s) (hc4 : cnt ≤ 4) : I 170 s = -1 ∨ ∃ k, k < 100 ∧ I 170 s = nI k := by
  rcases h with ⟨a1, a2, a3, a4⟩ | ⟨l, b1, b2, b3, b4, b5, b6⟩ | ⟨k, n, a1, a2, a3, a4, a5, a6, a7, a8⟩
  · exact Or.inl a4
  · exact Or.inr ⟨_, by omega, b6⟩
  · exact Or.inr ⟨k, by omega, a6⟩
theorem full_C (h : GG B cnt mode T S I L) : X6_fullShelves 1 I = some (nI (cntB (fun s => !decide (I 170 s = -1)) 8)) := by
  have key : ∀ d n s, s + d = 8 → d < n → jfx (X6_fullShelves_F1 1 I) (fun _ _ => none) n (nI (cntB (fun s => !decide (I 170 s = -1)) s)) (nI s) = some (nI (cntB (fun s => !decide (I 170 s = -1)) 8)) := by
    intro d
    induction d with
    | zero =>
      intro n s h1 h2
      obtain ⟨n, rfl⟩ : ∃ q, n = q + 1 := ⟨n - 1, by omega⟩
      rw [jfx_s, X6_fullShelves_F1, if_pos (lle (8 : Int32) 8 rfl (by omega) (by omega)), show s = 8 by omega]
    | succ d ih =>
      intro n s h1 h2
      obtain ⟨n, rfl⟩ : ∃ q, n = q + 1 := ⟨n - 1, by omega⟩
      have hi := ih n (s + 1) (by omega) (by omega)
      rw [cntB_s] at hi
      rw [jfx_s, X6_fullShelves_F1, if_neg (lge (8 : Int32) 8 rfl (by omega) (by omega)), holds_e (by omega) (h.2.1 s (by omega)) h.1.1.1, ob_some, jlet_d, jlet_d, show nI s + (1 : Int32) = nI (s + 1) from nI_1 _, ← hi]
      by_cases e : I 170 s = -1
      · rw [if_pos e, if_neg (by simp [e]), nI_a0]
      · rw [if_neg e, if_pos (by simp [e]), nI_1]
  exact key 8 1000 0 (by omega) (by omega)
theorem full_M (h : GG B cnt mode T S I L) (k5 : Int32 → Option Int32) : jfx (X7_status_F1 164 I k5) (fun _ _ => none) 1000 (0 : Int32) (0 : Int32) = k5 (nI (cntB (fun s => !decide (I 170 s = -1)) 8)) := by
  have key : ∀ d n s, s + d = 8 → d < n → jfx (X7_status_F1 164 I k5) (fun _ _ => none) n (nI (cntB (fun s => !decide (I 170 s = -1)) s)) (nI s) = k5 (nI (cntB (fun s => !decide (I 170 s = -1)) 8)) := by
    intro d
    induction d with
    | zero =>
      intro n s h1 h2
      obtain ⟨n, rfl⟩ : ∃ q, n = q + 1 := ⟨n - 1, by omega⟩
      rw [jfx_s, X7_status_F1, if_pos (lle (8 : Int32) 8 rfl (by omega) (by omega)), show s = 8 by omega]
    | succ d ih =>
      intro n s h1 h2
      obtain ⟨n, rfl⟩ : ∃ q, n = q + 1 := ⟨n - 1, by omega⟩
      have hi := ih n (s + 1) (by omega) (by omega)
      rw [cntB_s] at hi
      rw [jfx_s, X7_status_F1, if_neg (lge (8 : Int32) 8 rfl (by omega) (by omega)), if_pos (jin_N (by omega) (by omega)), jlet_d, jlet_d, rMM.2.2.1, cl_N (by omega), show nI s + (1 : Int32) = nI (s + 1) from nI_1 _, ← hi]
      rcases hold_c (h.2.1 s (by omega)) h.1.1.1 with e | ⟨k, hk, e⟩
      · rw [e, if_neg (by decide), if_neg (by simp), nI_a0]
      · rw [e, if_pos (nI_pos' (by omega)), if_pos (by simpa using m1_ne (by omega)), nI_1]
  exact key 8 1000 0 (by omega) (by omega)
theorem wi_off (x : Int32) : X6_isWithin (x - (12 : Int32)) (0 : Int32) ((5 : Int32) - (1 : Int32)) = X6_isWithin x 12 16 := by
  have h1 := Int32.le_toInt x
  have h2 := Int32.toInt_lt x
  have h3 : (x - (12 : Int32)).toInt = if -2147483636 ≤ x.toInt then x.toInt - 12 else x.toInt + 4294967284 := by
    rw [Int32.toInt_sub, show (12 : Int32).toInt = 12 from rfl]
    unfold Int.bmod
    dsimp only
    split
    · split <;> omega
    · split <;> omega
  have e : ((0 : Int32) ≤ x - 12 ∧ x - 12 ≤ (5 : Int32) - 1) ↔ ((12 : Int32) ≤ x ∧ x ≤ 16) := by
    rw [Int32.le_iff_toInt_le, Int32.le_iff_toInt_le, Int32.le_iff_toInt_le, Int32.le_iff_toInt_le, h3, show (0 : Int32).toInt = 0 from rfl, show (12 : Int32).toInt = 12 from rfl, show (16 : Int32).toInt = 16 from rfl, show ((5 : Int32) - 1).toInt = 4 from rfl]
    by_cases c : -2147483636 ≤ x.toInt
    · rw [if_pos c]; omega
    · rw [if_neg c]; omega
  rw [wi_e, wi_e]
  exact ifc e
theorem t_status (h : GG B cnt mode T S I L) (x : Int32) : ∃ v, X6_status 1 x I = some v ∧ X7_status 164 x I = some v := by
  obtain ⟨n, hn, t1, t2, t3⟩ := h.2.2.1
  obtain ⟨⟨r, -, r8, r94⟩, -⟩ := h.1.2.2.2.2.2.1
  obtain ⟨-, -, d11, d3, -⟩ := id h.1.2.2.2.1
  obtain ⟨x1, x2, x3, x4, x5, x6⟩ := h.1.2.1
  obtain ⟨-, y11, y3, -⟩ := h.1.2.2.2.1
  obtain ⟨⟨f, -, c2, c3⟩, ⟨b1, b2⟩, ⟨a, -, g2, g3⟩, p10, p12, -⟩ := h.1.2.2.2.2.2.2
  rcases wi_c x 12 16 12 16 rfl rfl with hx | ⟨hx, w, hw1, hw2, -, rfl⟩
  · have cC : ∀ v, X6_status 1 x I = v → X6_status 1 x I = v := fun _ z => z
    unfold X6_status X7_status
    rw [jlet_d, wi_off, within_e x 12 16 12 16 rfl rfl, hx, ob_some, ob_some, if_pos rfl, if_pos rfl, jlet_d, full_M h]
    by_cases h0 : x = 0
    · subst h0
      refine ⟨nI cnt, ?_, ?_⟩
      · rw [if_pos rfl, rR.1, x1]
      · rw [if_pos rfl, if_pos (by decide), rM0, show ((688 : Int32)).toNatClampNeg = 688 from rfl, x2]
    by_cases h1 : x = 1
    · subst h1
      refine ⟨nI mode, ?_, ?_⟩
      · rw [if_neg (show ¬ (1 : Int32) = 0 by decide), if_pos rfl, rR.1, x3]
      · rw [if_neg (show ¬ (1 : Int32) = 0 by decide), if_pos rfl, if_pos (by decide), rM0, show ((689 : Int32)).toNatClampNeg = 689 from rfl, x4]
    by_cases h2 : x = 2
    · subst h2
      refine ⟨I 165 690, ?_, ?_⟩
      · rw [if_neg (show ¬ (2 : Int32) = 0 by decide), if_neg (show ¬ (2 : Int32) = 1 by decide), if_pos rfl, rR.1, b1]
      · rw [if_neg (show ¬ (2 : Int32) = 0 by decide), if_neg (show ¬ (2 : Int32) = 1 by decide), if_pos rfl, if_pos (by decide), rM0, show ((690 : Int32)).toNatClampNeg = 690 from rfl]
    by_cases h3 : x = 3
    · subst h3
      refine ⟨nI a, ?_, ?_⟩
      · rw [if_neg (show ¬ (3 : Int32) = 0 by decide), if_neg (show ¬ (3 : Int32) = 1 by decide), if_neg (show ¬ (3 : Int32) = 2 by decide), if_pos rfl, rR.1, g2]
      · rw [if_neg (show ¬ (3 : Int32) = 0 by decide), if_neg (show ¬ (3 : Int32) = 1 by decide), if_neg (show ¬ (3 : Int32) = 2 by decide), if_pos rfl, if_pos (by decide), rM0, show ((691 : Int32)).toNatClampNeg = 691 from rfl, g3]
    by_cases h4 : x = 4
    · subst h4
      refine ⟨nI f, ?_, ?_⟩
      · rw [if_neg (show ¬ (4 : Int32) = 0 by decide), if_neg (show ¬ (4 : Int32) = 1 by decide), if_neg (show ¬ (4 : Int32) = 2 by decide), if_neg (show ¬ (4 : Int32) = 3 by decide), if_pos rfl, rR.1, c2]
      · rw [if_neg (show ¬ (4 : Int32) = 0 by decide), if_neg (show ¬ (4 : Int32) = 1 by decide), if_neg (show ¬ (4 : Int32) = 2 by decide), if_neg (show ¬ (4 : Int32) = 3 by decide), if_pos rfl, if_pos (by decide), rM0, show ((692 : Int32)).toNatClampNeg = 692 from rfl, c3]
    by_cases h5 : x = 5
    · subst h5
      refine ⟨nI T, ?_, ?_⟩
      · rw [if_neg (show ¬ (5 : Int32) = 0 by decide), if_neg (show ¬ (5 : Int32) = 1 by decide), if_neg (show ¬ (5 : Int32) = 2 by decide), if_neg (show ¬ (5 : Int32) = 3 by decide), if_neg (show ¬ (5 : Int32) = 4 by decide), if_pos rfl, rR.1, x5]
      · rw [if_neg (show ¬ (5 : Int32) = 0 by decide), if_neg (show ¬ (5 : Int32) = 1 by decide), if_neg (show ¬ (5 : Int32) = 2 by decide), if_neg (show ¬ (5 : Int32) = 3 by decide), if_neg (show ¬ (5 : Int32) = 4 by decide), if_pos rfl, if_pos (by decide), rM0, show ((693 : Int32)).toNatClampNeg = 693 from rfl, x6]
    by_cases h6 : x = 6
    · subst h6
      refine ⟨nI r, ?_, ?_⟩
      · rw [if_neg (show ¬ (6 : Int32) = 0 by decide), if_neg (show ¬ (6 : Int32) = 1 by decide), if_neg (show ¬ (6 : Int32) = 2 by decide), if_neg (show ¬ (6 : Int32) = 3 by decide), if_neg (show ¬ (6 : Int32) = 4 by decide), if_neg (show ¬ (6 : Int32) = 5 by decide), if_pos rfl, rR.1, r8]
      · rw [if_neg (show ¬ (6 : Int32) = 0 by decide), if_neg (show ¬ (6 : Int32) = 1 by decide), if_neg (show ¬ (6 : Int32) = 2 by decide), if_neg (show ¬ (6 : Int32) = 3 by decide), if_neg (show ¬ (6 : Int32) = 4 by decide), if_neg (show ¬ (6 : Int32) = 5 by decide), if_pos rfl, if_pos (by decide), rM0, show ((694 : Int32)).toNatClampNeg = 694 from rfl, r94]
    by_cases h7 : x = 7
    · subst h7
      refine ⟨I 165 696, ?_, ?_⟩
      · rw [if_neg (show ¬ (7 : Int32) = 0 by decide), if_neg (show ¬ (7 : Int32) = 1 by decide), if_neg (show ¬ (7 : Int32) = 2 by decide), if_neg (show ¬ (7 : Int32) = 3 by decide), if_neg (show ¬ (7 : Int32) = 4 by decide), if_neg (show ¬ (7 : Int32) = 5 by decide), if_neg (show ¬ (7 : Int32) = 6 by decide), if_pos rfl, rR.1, p10]
      · rw [if_neg (show ¬ (7 : Int32) = 0 by decide), if_neg (show ¬ (7 : Int32) = 1 by decide), if_neg (show ¬ (7 : Int32) = 2 by decide), if_neg (show ¬ (7 : Int32) = 3 by decide), if_neg (show ¬ (7 : Int32) = 4 by decide), if_neg (show ¬ (7 : Int32) = 5 by decide), if_neg (show ¬ (7 : Int32) = 6 by decide), if_pos rfl, if_pos (by decide), rM0, show ((696 : Int32)).toNatClampNeg = 696 from rfl]
    by_cases h8 : x = 8
    · subst h8
      refine ⟨I 165 697, ?_, ?_⟩
      · rw [if_neg (show ¬ (8 : Int32) = 0 by decide), if_neg (show ¬ (8 : Int32) = 1 by decide), if_neg (show ¬ (8 : Int32) = 2 by decide), if_neg (show ¬ (8 : Int32) = 3 by decide), if_neg (show ¬ (8 : Int32) = 4 by decide), if_neg (show ¬ (8 : Int32) = 5 by decide), if_neg (show ¬ (8 : Int32) = 6 by decide), if_neg (show ¬ (8 : Int32) = 7 by decide), if_pos rfl, rR.1, y11]
      · rw [if_neg (show ¬ (8 : Int32) = 0 by decide), if_neg (show ¬ (8 : Int32) = 1 by decide), if_neg (show ¬ (8 : Int32) = 2 by decide), if_neg (show ¬ (8 : Int32) = 3 by decide), if_neg (show ¬ (8 : Int32) = 4 by decide), if_neg (show ¬ (8 : Int32) = 5 by decide), if_neg (show ¬ (8 : Int32) = 6 by decide), if_neg (show ¬ (8 : Int32) = 7 by decide), if_pos rfl, if_pos (by decide), rM0, show ((697 : Int32)).toNatClampNeg = 697 from rfl]
    by_cases h9 : x = 9
    · subst h9
      refine ⟨I 165 698, ?_, ?_⟩
      · rw [if_neg (show ¬ (9 : Int32) = 0 by decide), if_neg (show ¬ (9 : Int32) = 1 by decide), if_neg (show ¬ (9 : Int32) = 2 by decide), if_neg (show ¬ (9 : Int32) = 3 by decide), if_neg (show ¬ (9 : Int32) = 4 by decide), if_neg (show ¬ (9 : Int32) = 5 by decide), if_neg (show ¬ (9 : Int32) = 6 by decide), if_neg (show ¬ (9 : Int32) = 7 by decide), if_neg (show ¬ (9 : Int32) = 8 by decide), if_pos rfl, rR.1, p12]
      · rw [if_neg (show ¬ (9 : Int32) = 0 by decide), if_neg (show ¬ (9 : Int32) = 1 by decide), if_neg (show ¬ (9 : Int32) = 2 by decide), if_neg (show ¬ (9 : Int32) = 3 by decide), if_neg (show ¬ (9 : Int32) = 4 by decide), if_neg (show ¬ (9 : Int32) = 5 by decide), if_neg (show ¬ (9 : Int32) = 6 by decide), if_neg (show ¬ (9 : Int32) = 7 by decide), if_neg (show ¬ (9 : Int32) = 8 by decide), if_pos rfl, if_pos (by decide), rM0, show ((698 : Int32)).toNatClampNeg = 698 from rfl]
    by_cases h10 : x = 10
    · subst h10
      refine ⟨nI n, ?_, ?_⟩
      · rw [if_neg (show ¬ (10 : Int32) = 0 by decide), if_neg (show ¬ (10 : Int32) = 1 by decide), if_neg (show ¬ (10 : Int32) = 2 by decide), if_neg (show ¬ (10 : Int32) = 3 by decide), if_neg (show ¬ (10 : Int32) = 4 by decide), if_neg (show ¬ (10 : Int32) = 5 by decide), if_neg (show ¬ (10 : Int32) = 6 by decide), if_neg (show ¬ (10 : Int32) = 7 by decide), if_neg (show ¬ (10 : Int32) = 8 by decide), if_neg (show ¬ (10 : Int32) = 9 by decide), if_pos rfl, rT.1, t1]
      · rw [if_neg (show ¬ (10 : Int32) = 0 by decide), if_neg (show ¬ (10 : Int32) = 1 by decide), if_neg (show ¬ (10 : Int32) = 2 by decide), if_neg (show ¬ (10 : Int32) = 3 by decide), if_neg (show ¬ (10 : Int32) = 4 by decide), if_neg (show ¬ (10 : Int32) = 5 by decide), if_neg (show ¬ (10 : Int32) = 6 by decide), if_neg (show ¬ (10 : Int32) = 7 by decide), if_neg (show ¬ (10 : Int32) = 8 by decide), if_neg (show ¬ (10 : Int32) = 9 by decide), if_pos rfl, t2]
    by_cases h11 : x = 11
    · subst h11
      refine ⟨I 165 699, ?_, ?_⟩
      · rw [if_neg (show ¬ (11 : Int32) = 0 by decide), if_neg (show ¬ (11 : Int32) = 1 by decide), if_neg (show ¬ (11 : Int32) = 2 by decide), if_neg (show ¬ (11 : Int32) = 3 by decide), if_neg (show ¬ (11 : Int32) = 4 by decide), if_neg (show ¬ (11 : Int32) = 5 by decide), if_neg (show ¬ (11 : Int32) = 6 by decide), if_neg (show ¬ (11 : Int32) = 7 by decide), if_neg (show ¬ (11 : Int32) = 8 by decide), if_neg (show ¬ (11 : Int32) = 9 by decide), if_neg (show ¬ (11 : Int32) = 10 by decide), if_pos rfl, rR.1, (SB_o OB2).2.2.1, show 2 + 3 = 5 from rfl, show I 5 0 = I 165 699 from y3]
      · rw [if_neg (show ¬ (11 : Int32) = 0 by decide), if_neg (show ¬ (11 : Int32) = 1 by decide), if_neg (show ¬ (11 : Int32) = 2 by decide), if_neg (show ¬ (11 : Int32) = 3 by decide), if_neg (show ¬ (11 : Int32) = 4 by decide), if_neg (show ¬ (11 : Int32) = 5 by decide), if_neg (show ¬ (11 : Int32) = 6 by decide), if_neg (show ¬ (11 : Int32) = 7 by decide), if_neg (show ¬ (11 : Int32) = 8 by decide), if_neg (show ¬ (11 : Int32) = 9 by decide), if_neg (show ¬ (11 : Int32) = 10 by decide), if_pos rfl, if_pos (by decide), rM0, show ((699 : Int32)).toNatClampNeg = 699 from rfl]
    by_cases h12 : x = 12
    · subst h12
      exact ⟨-1, by rw [if_neg (show ¬ (12 : Int32) = 0 by decide), if_neg (show ¬ (12 : Int32) = 1 by decide), if_neg (show ¬ (12 : Int32) = 2 by decide), if_neg (show ¬ (12 : Int32) = 3 by decide), if_neg (show ¬ (12 : Int32) = 4 by decide), if_neg (show ¬ (12 : Int32) = 5 by decide), if_neg (show ¬ (12 : Int32) = 6 by decide), if_neg (show ¬ (12 : Int32) = 7 by decide), if_neg (show ¬ (12 : Int32) = 8 by decide), if_neg (show ¬ (12 : Int32) = 9 by decide), if_neg (show ¬ (12 : Int32) = 10 by decide), if_neg (show ¬ (12 : Int32) = 11 by decide), if_pos rfl], by rw [if_neg (show ¬ (12 : Int32) = 0 by decide), if_neg (show ¬ (12 : Int32) = 1 by decide), if_neg (show ¬ (12 : Int32) = 2 by decide), if_neg (show ¬ (12 : Int32) = 3 by decide), if_neg (show ¬ (12 : Int32) = 4 by decide), if_neg (show ¬ (12 : Int32) = 5 by decide), if_neg (show ¬ (12 : Int32) = 6 by decide), if_neg (show ¬ (12 : Int32) = 7 by decide), if_neg (show ¬ (12 : Int32) = 8 by decide), if_neg (show ¬ (12 : Int32) = 9 by decide), if_neg (show ¬ (12 : Int32) = 10 by decide), if_neg (show ¬ (12 : Int32) = 11 by decide), if_pos rfl]⟩
    by_cases h13 : x = 13
    · subst h13
      exact ⟨-1, by rw [if_neg (show ¬ (13 : Int32) = 0 by decide), if_neg (show ¬ (13 : Int32) = 1 by decide), if_neg (show ¬ (13 : Int32) = 2 by decide), if_neg (show ¬ (13 : Int32) = 3 by decide), if_neg (show ¬ (13 : Int32) = 4 by decide), if_neg (show ¬ (13 : Int32) = 5 by decide), if_neg (show ¬ (13 : Int32) = 6 by decide), if_neg (show ¬ (13 : Int32) = 7 by decide), if_neg (show ¬ (13 : Int32) = 8 by decide), if_neg (show ¬ (13 : Int32) = 9 by decide), if_neg (show ¬ (13 : Int32) = 10 by decide), if_neg (show ¬ (13 : Int32) = 11 by decide), if_neg (show ¬ (13 : Int32) = 12 by decide), if_pos rfl], by rw [if_neg (show ¬ (13 : Int32) = 0 by decide), if_neg (show ¬ (13 : Int32) = 1 by decide), if_neg (show ¬ (13 : Int32) = 2 by decide), if_neg (show ¬ (13 : Int32) = 3 by decide), if_neg (show ¬ (13 : Int32) = 4 by decide), if_neg (show ¬ (13 : Int32) = 5 by decide), if_neg (show ¬ (13 : Int32) = 6 by decide), if_neg (show ¬ (13 : Int32) = 7 by decide), if_neg (show ¬ (13 : Int32) = 8 by decide), if_neg (show ¬ (13 : Int32) = 9 by decide), if_neg (show ¬ (13 : Int32) = 10 by decide), if_neg (show ¬ (13 : Int32) = 11 by decide), if_neg (show ¬ (13 : Int32) = 12 by decide), if_pos rfl]⟩
    by_cases h14 : x = 14
    · subst h14
      exact ⟨-1, by rw [if_neg (show ¬ (14 : Int32) = 0 by decide), if_neg (show ¬ (14 : Int32) = 1 by decide), if_neg (show ¬ (14 : Int32) = 2 by decide), if_neg (show ¬ (14 : Int32) = 3 by decide), if_neg (show ¬ (14 : Int32) = 4 by decide), if_neg (show ¬ (14 : Int32) = 5 by decide), if_neg (show ¬ (14 : Int32) = 6 by decide), if_neg (show ¬ (14 : Int32) = 7 by decide), if_neg (show ¬ (14 : Int32) = 8 by decide), if_neg (show ¬ (14 : Int32) = 9 by decide), if_neg (show ¬ (14 : Int32) = 10 by decide), if_neg (show ¬ (14 : Int32) = 11 by decide), if_neg (show ¬ (14 : Int32) = 12 by decide), if_neg (show ¬ (14 : Int32) = 13 by decide), if_pos rfl], by rw [if_neg (show ¬ (14 : Int32) = 0 by decide), if_neg (show ¬ (14 : Int32) = 1 by decide), if_neg (show ¬ (14 : Int32) = 2 by decide), if_neg (show ¬ (14 : Int32) = 3 by decide), if_neg (show ¬ (14 : Int32) = 4 by decide), if_neg (show ¬ (14 : Int32) = 5 by decide), if_neg (show ¬ (14 : Int32) = 6 by decide), if_neg (show ¬ (14 : Int32) = 7 by decide), if_neg (show ¬ (14 : Int32) = 8 by decide), if_neg (show ¬ (14 : Int32) = 9 by decide), if_neg (show ¬ (14 : Int32) = 10 by decide), if_neg (show ¬ (14 : Int32) = 11 by decide), if_neg (show ¬ (14 : Int32) = 12 by decide), if_neg (show ¬ (14 : Int32) = 13 by decide), if_pos rfl]⟩
    by_cases h15 : x = 15
    · subst h15
      exact ⟨-1, by rw [if_neg (show ¬ (15 : Int32) = 0 by decide), if_neg (show ¬ (15 : Int32) = 1 by decide), if_neg (show ¬ (15 : Int32) = 2 by decide), if_neg (show ¬ (15 : Int32) = 3 by decide), if_neg (show ¬ (15 : Int32) = 4 by decide), if_neg (show ¬ (15 : Int32) = 5 by decide), if_neg (show ¬ (15 : Int32) = 6 by decide), if_neg (show ¬ (15 : Int32) = 7 by decide), if_neg (show ¬ (15 : Int32) = 8 by decide), if_neg (show ¬ (15 : Int32) = 9 by decide), if_neg (show ¬ (15 : Int32) = 10 by decide), if_neg (show ¬ (15 : Int32) = 11 by decide), if_neg (show ¬ (15 : Int32) = 12 by decide), if_neg (show ¬ (15 : Int32) = 13 by decide), if_neg (show ¬ (15 : Int32) = 14 by decide), if_pos rfl], by rw [if_neg (show ¬ (15 : Int32) = 0 by decide), if_neg (show ¬ (15 : Int32) = 1 by decide), if_neg (show ¬ (15 : Int32) = 2 by decide), if_neg (show ¬ (15 : Int32) = 3 by decide), if_neg (show ¬ (15 : Int32) = 4 by decide), if_neg (show ¬ (15 : Int32) = 5 by decide), if_neg (show ¬ (15 : Int32) = 6 by decide), if_neg (show ¬ (15 : Int32) = 7 by decide), if_neg (show ¬ (15 : Int32) = 8 by decide), if_neg (show ¬ (15 : Int32) = 9 by decide), if_neg (show ¬ (15 : Int32) = 10 by decide), if_neg (show ¬ (15 : Int32) = 11 by decide), if_neg (show ¬ (15 : Int32) = 12 by decide), if_neg (show ¬ (15 : Int32) = 13 by decide), if_neg (show ¬ (15 : Int32) = 14 by decide), if_pos rfl]⟩
    by_cases h16 : x = 16
    · subst h16
      exact ⟨-1, by rw [if_neg (show ¬ (16 : Int32) = 0 by decide), if_neg (show ¬ (16 : Int32) = 1 by decide), if_neg (show ¬ (16 : Int32) = 2 by decide), if_neg (show ¬ (16 : Int32) = 3 by decide), if_neg (show ¬ (16 : Int32) = 4 by decide), if_neg (show ¬ (16 : Int32) = 5 by decide), if_neg (show ¬ (16 : Int32) = 6 by decide), if_neg (show ¬ (16 : Int32) = 7 by decide), if_neg (show ¬ (16 : Int32) = 8 by decide), if_neg (show ¬ (16 : Int32) = 9 by decide), if_neg (show ¬ (16 : Int32) = 10 by decide), if_neg (show ¬ (16 : Int32) = 11 by decide), if_neg (show ¬ (16 : Int32) = 12 by decide), if_neg (show ¬ (16 : Int32) = 13 by decide), if_neg (show ¬ (16 : Int32) = 14 by decide), if_neg (show ¬ (16 : Int32) = 15 by decide), if_pos rfl], by rw [if_neg (show ¬ (16 : Int32) = 0 by decide), if_neg (show ¬ (16 : Int32) = 1 by decide), if_neg (show ¬ (16 : Int32) = 2 by decide), if_neg (show ¬ (16 : Int32) = 3 by decide), if_neg (show ¬ (16 : Int32) = 4 by decide), if_neg (show ¬ (16 : Int32) = 5 by decide), if_neg (show ¬ (16 : Int32) = 6 by decide), if_neg (show ¬ (16 : Int32) = 7 by decide), if_neg (show ¬ (16 : Int32) = 8 by decide), if_neg (show ¬ (16 : Int32) = 9 by decide), if_neg (show ¬ (16 : Int32) = 10 by decide), if_neg (show ¬ (16 : Int32) = 11 by decide), if_neg (show ¬ (16 : Int32) = 12 by decide), if_neg (show ¬ (16 : Int32) = 13 by decide), if_neg (show ¬ (16 : Int32) = 14 by decide), if_neg (show ¬ (16 : Int32) = 15 by decide), if_pos rfl]⟩
    by_cases h17 : x = 17
    · subst h17
      refine ⟨nI (cntB (fun s => !decide (I 170 s = -1)) 8), ?_, ?_⟩
      · rw [if_neg (show ¬ (17 : Int32) = 0 by decide), if_neg (show ¬ (17 : Int32) = 1 by decide), if_neg (show ¬ (17 : Int32) = 2 by decide), if_neg (show ¬ (17 : Int32) = 3 by decide), if_neg (show ¬ (17 : Int32) = 4 by decide), if_neg (show ¬ (17 : Int32) = 5 by decide), if_neg (show ¬ (17 : Int32) = 6 by decide), if_neg (show ¬ (17 : Int32) = 7 by decide), if_neg (show ¬ (17 : Int32) = 8 by decide), if_neg (show ¬ (17 : Int32) = 9 by decide), if_neg (show ¬ (17 : Int32) = 10 by decide), if_neg (show ¬ (17 : Int32) = 11 by decide), if_neg (show ¬ (17 : Int32) = 12 by decide), if_neg (show ¬ (17 : Int32) = 13 by decide), if_neg (show ¬ (17 : Int32) = 14 by decide), if_neg (show ¬ (17 : Int32) = 15 by decide), if_neg (show ¬ (17 : Int32) = 16 by decide), if_pos rfl, full_C h, ob_some]
      · rw [if_neg (show ¬ (17 : Int32) = 0 by decide), if_neg (show ¬ (17 : Int32) = 1 by decide), if_neg (show ¬ (17 : Int32) = 2 by decide), if_neg (show ¬ (17 : Int32) = 3 by decide), if_neg (show ¬ (17 : Int32) = 4 by decide), if_neg (show ¬ (17 : Int32) = 5 by decide), if_neg (show ¬ (17 : Int32) = 6 by decide), if_neg (show ¬ (17 : Int32) = 7 by decide), if_neg (show ¬ (17 : Int32) = 8 by decide), if_neg (show ¬ (17 : Int32) = 9 by decide), if_neg (show ¬ (17 : Int32) = 10 by decide), if_neg (show ¬ (17 : Int32) = 11 by decide), if_neg (show ¬ (17 : Int32) = 12 by decide), if_neg (show ¬ (17 : Int32) = 13 by decide), if_neg (show ¬ (17 : Int32) = 14 by decide), if_neg (show ¬ (17 : Int32) = 15 by decide), if_neg (show ¬ (17 : Int32) = 16 by decide), if_pos rfl]
    exact ⟨-1, by rw [if_neg h0, if_neg h1, if_neg h2, if_neg h3, if_neg h4, if_neg h5, if_neg h6, if_neg h7, if_neg h8, if_neg h9, if_neg h10, if_neg h11, if_neg h12, if_neg h13, if_neg h14, if_neg h15, if_neg h16, if_neg h17], by rw [if_neg h0, if_neg h1, if_neg h2, if_neg h3, if_neg h4, if_neg h5, if_neg h6, if_neg h7, if_neg h8, if_neg h9, if_neg h10, if_neg h11, if_neg h12, if_neg h13, if_neg h14, if_neg h15, if_neg h16, if_neg h17]⟩
  · refine ⟨I 168 (w - 12), ?_, ?_⟩
    · unfold X6_status
      rw [jlet_d, wi_off, hx, ob_some, if_neg (by decide), show (12 : Int32) = nI 12 from rfl, subN (by omega), if_pos (jin_N (by omega) (by omega)), cl_N (by omega), rT.2.2.1, h.2.2.2.2 _ (by omega)]
    · unfold X7_status
      rw [within_e _ 12 16 12 16 rfl rfl, hx, ob_some, if_neg (by decide), show (12 : Int32) = nI 12 from rfl, subN (by omega), if_pos (jin_N (by omega) (by omega)), cl_N (by omega), rM4]
end KP
