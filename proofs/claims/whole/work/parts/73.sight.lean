/-! FORESIGHT: on both sides -/
theorem anyE_iff {pg : Nat → Nat} {a q : Nat} : ∀ {d : Nat}, (anyE pg a d q = true ↔ ∃ j, j < d ∧ pg (a + j) = q)
  | 0 => ⟨fun h => (by cases h), fun ⟨j, h, _⟩ => (by omega)⟩
  | d + 1 => by
    rw [anyE_s, Bool.or_eq_true, anyE_iff, decide_eq_true_iff]
    constructor
    · rintro (⟨j, h1, h2⟩ | h)
      · exact ⟨j, by omega, h2⟩
      · exact ⟨d, by omega, h⟩
    · rintro ⟨j, h1, h2⟩
      by_cases e : j = d
      · subst e; exact Or.inr h2
      · exact Or.inl ⟨j, by omega, h2⟩
theorem anyE_congr {pg pg' : Nat → Nat} {a q : Nat} : ∀ {d : Nat}, (∀ j, j < d → pg' (a + j) = pg (a + j)) → anyE pg' a d q = anyE pg a d q
  | 0, _ => rfl
  | d + 1, h => by rw [anyE_s, anyE_s, anyE_congr (fun j hj => h j (by omega)), h d (by omega)]
theorem dst_inj {H : Nat → Nat} : ∀ {c : Nat}, (∀ i j, i < c → j < c → H i = H j → i = j) → dst H 0 c = c
  | 0, _ => rfl
  | c + 1, h => by
    rw [dst_s, dst_inj (fun i j a b => h i j (by omega) (by omega)), if_neg]
    intro z
    obtain ⟨j, h1, h2⟩ := anyE_iff.mp z
    rw [Nat.zero_add, Nat.zero_add] at h2
    have := h j c (by omega) (by omega) h2
    omega
theorem shq : ∀ q, q < 64 → (((nI q).toInt64.toUInt64 &&& Int64.toUInt64 63)).toNat = q := by decide +kernel
theorem bit_at {v : Int64} {P : Nat → Bool} (h : bits v P) {q : Nat} (hq : q < 64) : (lg_cmp ((jlushr v (nI q)) &&& (1 : Int64)) (1 : Int64) = 0) ↔ P q = true := by
  rw [cmp_eq, ← h q hq]
  have e : nz ((jlushr v (nI q)) &&& (1 : Int64)) = nz v / 2 ^ q % 2 := by
    rw [nz_and, nz_shr v (nI q) q (shq q hq) hq, show nz 1 = 1 from by decide, Nat.and_one_is_mod]
  have e2 : (nz v).testBit q = true ↔ nz v / 2 ^ q % 2 = 1 := by
    rw [Nat.testBit_eq_decide_div_mod_eq, decide_eq_true_iff]
  rw [e2, ← e]
  constructor
  · intro z; rw [z]; decide
  · intro z
    apply Int64.toBitVec_inj.mp
    apply BitVec.eq_of_toNat_eq
    exact z.trans (show (1 : Nat) = nz 1 by decide)
theorem bits_one {p : Nat} (hp : p < 64) : bits (jlshl 1 (nI p)) (fun i => decide (p = i)) := fun i _ => by
  rw [nz_one p hp, Nat.testBit_two_pow]
theorem and_at {v : Int64} {P : Nat → Bool} (h : bits v P) {p : Nat} (hp : p < 64) : (lg_cmp (v &&& jlshl 1 (nI p)) (0 : Int64) = 0) ↔ P p = false := by
  rw [cmp_eq]
  have hb := bits_and h (bits_one hp)
  constructor
  · intro z
    rw [z] at hb
    have h1 := hb p hp
    have h2 := bits_0 p hp
    rw [h2] at h1
    simpa using h1.symm
  · intro z
    refine bits_ext hb (bits_congr bits_0 (fun i _ => ?_))
    by_cases e : p = i
    · subst e; rw [z]; rfl
    · rw [decide_eq_false e]; simp
def nxD (pg : Nat → Nat) (q : Nat) : Nat → Nat → Nat
  | 0, i => i
  | d + 1, i => if pg i = q then i else nxD pg q d (i + 1)
theorem nxD_s {pg : Nat → Nat} {q d i : Nat} : nxD pg q (d + 1) i = if pg i = q then i else nxD pg q d (i + 1) := rfl
theorem nxD_le {pg : Nat → Nat} {q : Nat} : ∀ {d i : Nat}, nxD pg q d i ≤ i + d
  | 0, i => by unfold nxD; omega
  | d + 1, i => by
    have := nxD_le (pg := pg) (q := q) (d := d) (i := i + 1)
    rw [nxD_s]; split <;> omega
theorem dif_fin : ∀ a, a < 41 → ∀ b, b < 41 → decide (0 < nI a - nI b) = decide (b < a) ∧ decide (nI a - nI b = 0) = decide (a = b) := by decide +kernel
theorem dif_pos' {a b : Nat} (ha : a < 41) (hb : b < 41) : (0 < nI a - nI b) ↔ b < a := by
  have := (dif_fin a ha b hb).1
  constructor
  · intro z; rw [decide_eq_true z] at this; exact of_decide_eq_true this.symm
  · intro z; rw [decide_eq_true z] at this; exact of_decide_eq_true this
theorem dif_zero {a b : Nat} (ha : a < 41) (hb : b < 41) : (nI a - nI b = 0) ↔ a = b := by
  have := (dif_fin a ha b hb).2
  constructor
  · intro z; rw [decide_eq_true z] at this; exact of_decide_eq_true this.symm
  · intro z; rw [decide_eq_true z] at this; exact of_decide_eq_true this
/-- q goes at least as soon as q' -/
def btr (pg : Nat → Nat) (N f q q' : Nat) : Prop := nxD pg q' (N - f) f < nxD pg q (N - f) f ∨ (nxD pg q' (N - f) f = nxD pg q (N - f) f ∧ q ≤ q')
theorem btr_anti {pg : Nat → Nat} {N f q q' : Nat} (h1 : btr pg N f q q') (h2 : btr pg N f q' q) : q = q' := by
  unfold btr at h1 h2
  omega
theorem btr_tr {pg : Nat → Nat} {N f q q' q'' : Nat} (h1 : btr pg N f q q') (h2 : btr pg N f q' q'') : btr pg N f q q'' := by
  unfold btr at *
  omega
section FS
variable {N s : Nat} {I : jI} {L : jL} {pg : Nat → Nat}
theorem next_C (ht : TOLD I L s 1 N pg) (hN : N ≤ 40) {q : Nat} (hq : q < 64) (k11 : Int32 → Option Int32) : ∀ d n i, i + d = N → d < n → jfx (X6_toldLatest_F1 1 (nI N) I (nI q) k11) (fun _ => none) n (nI i) = k11 (nI (nxD pg q d i)) := by
  intro d
  induction d with
  | zero =>
    intro n i h1 h2
    obtain ⟨n, rfl⟩ : ∃ q, n = q + 1 := ⟨n - 1, by omega⟩
    rw [jfx_s, X6_toldLatest_F1, if_pos (nI_le (by omega) (by omega))]
    rfl
  | succ d ih =>
    intro n i h1 h2
    obtain ⟨n, rfl⟩ : ∃ q, n = q + 1 := ⟨n - 1, by omega⟩
    obtain ⟨p1, p2, -⟩ := ht i (by omega)
    rw [jfx_s, X6_toldLatest_F1, if_neg (nI_ge (by omega) (by omega)), told_e (by omega), ob_some, p2, nxD_s, nI_1, ifc (show (nI (pg i) = nI q) ↔ (pg i = q) from nI_eq (by omega) (by omega))]
    by_cases e : pg i = q
    · rw [if_pos e, if_pos e]
    · rw [if_neg e, if_neg e]
      exact ih n (i + 1) (by omega) (by omega)
theorem next_M (ht : TOLD I L s 1 N pg) (hN : N ≤ 40) (hs : s < 8) {q : Nat} (hq : q < 64) {f : Nat} (hf : f ≤ N) : X7_nextRead 164 (nI s) (nI N) (nI f) (nI q) L = some (nI (nxD pg q (N - f) f)) := by
  have key : ∀ d n i, i + d = N → d < n → jfx (X7_nextRead_F1 164 (nI s) (nI N) (nI q) L) (fun _ => none) n (nI i) = some (nI (nxD pg q d i)) := by
    intro d
    induction d with
    | zero =>
      intro n i h1 h2
      obtain ⟨n, rfl⟩ : ∃ q, n = q + 1 := ⟨n - 1, by omega⟩
      rw [jfx_s, X7_nextRead_F1, if_pos (nI_le (by omega) (by omega))]
      rfl
    | succ d ih =>
      intro n i h1 h2
      obtain ⟨n, rfl⟩ : ∃ q, n = q + 1 := ⟨n - 1, by omega⟩
      obtain ⟨p1, p2, -⟩ := ht i (by omega)
      rw [jfx_s, X7_nextRead_F1, if_neg (nI_ge (by omega) (by omega)), forty, if_pos (jin_N (by omega) (by omega)), rMM.2.2.2.2.1, cl_N (by omega), tL ht (by omega), nxD_s, nI_1, ifc (cmpI p1 hq)]
      by_cases e : pg i = q
      · rw [if_pos e, if_pos e]
      · rw [if_neg e, if_neg e]
        exact ih n (i + 1) (by omega) (by omega)
  exact key (N - f) 1000 f (by omega) (by omega)
theorem latest_C (ht : TOLD I L s 1 N pg) (hN : N ≤ 40) {v : Int64} {P : Nat → Bool} (hv : bits v P) {f : Nat} (hf : f ≤ N) (hP : ∃ q, q < 64 ∧ P q = true) : ∃ q, q < 64 ∧ P q = true ∧ X6_toldLatest 1 v (nI f) (nI N) I = some (nI q) ∧ ∀ q', q' < 64 → P q' = true → btr pg N f q q' := by
  have key : ∀ d n q (b : Nat) (g : Int32), q + d = 64 → d < n → ((g = -1 ∧ ∀ q', q' < q → P q' = false) ∨ (b < q ∧ P b = true ∧ g = nI (nxD pg b (N - f) f) ∧ ∀ q', q' < q → P q' = true → btr pg N f b q')) →
      ∃ r, jfx (X6_toldLatest_F2 1 v (nI f) (nI N) I) (fun _ _ _ => none) n (nI b) g (nI q) = some (nI r) ∧ ((∀ q', q' < 64 → P q' = false) ∨ (r < 64 ∧ P r = true ∧ ∀ q', q' < 64 → P q' = true → btr pg N f r q')) := by
    intro d
    induction d with
    | zero =>
      intro n q b g h1 h2 h3
      obtain ⟨n, rfl⟩ : ∃ q, n = q + 1 := ⟨n - 1, by omega⟩
      refine ⟨b, ?_, ?_⟩
      · rw [jfx_s, X6_toldLatest_F2, if_pos (lle (64 : Int32) 64 rfl (by omega) (by omega))]
      · rcases h3 with ⟨-, h⟩ | ⟨a1, a2, -, a4⟩
        · exact Or.inl (fun q' hq' => h q' (by omega))
        · exact Or.inr ⟨by omega, a2, fun q' hq' => a4 q' (by omega)⟩
    | succ d ih =>
      intro n q b g h1 h2 h3
      obtain ⟨n, rfl⟩ : ∃ q, n = q + 1 := ⟨n - 1, by omega⟩
      have hle := nxD_le (pg := pg) (q := q) (d := N - f) (i := f)
      have eC : jfx (X6_toldLatest_F2 1 v (nI f) (nI N) I) (fun _ _ _ => none) (n + 1) (nI b) g (nI q) = if P q = true then (if nI (nxD pg q (N - f) f) ≤ g then jfx (X6_toldLatest_F2 1 v (nI f) (nI N) I) (fun _ _ _ => none) n (nI b) g (nI (q + 1)) else jfx (X6_toldLatest_F2 1 v (nI f) (nI N) I) (fun _ _ _ => none) n (nI q) (nI (nxD pg q (N - f) f)) (nI (q + 1))) else jfx (X6_toldLatest_F2 1 v (nI f) (nI N) I) (fun _ _ _ => none) n (nI b) g (nI (q + 1)) := by
        rw [jfx_s, X6_toldLatest_F2, if_neg (lge (64 : Int32) 64 rfl (by omega) (by omega)), jlet_d, ifc (bit_at hv (show q < 64 by omega)), nI_1]
        by_cases e : P q = true
        · rw [if_pos e, if_pos e, jlet_d, next_C ht hN (show q < 64 by omega) _ (N - f) 1000 f (by omega) (by omega)]
        · rw [if_neg e, if_neg e]
      rw [eC]
      by_cases e : P q = true
      · rw [if_pos e]
        rcases h3 with ⟨rfl, h⟩ | ⟨a1, a2, rfl, a4⟩
        · rw [if_neg (ge_m1 (by omega))]
          refine ih n (q + 1) q _ (by omega) (by omega) (Or.inr ⟨by omega, e, rfl, fun q' hq' hp' => ?_⟩)
          by_cases e2 : q' = q
          · subst e2; exact Or.inr ⟨rfl, Nat.le_refl _⟩
          · rw [h q' (by omega)] at hp'; cases hp'
        · have hle2 := nxD_le (pg := pg) (q := b) (d := N - f) (i := f)
          by_cases c : nxD pg q (N - f) f ≤ nxD pg b (N - f) f
          · rw [if_pos (nI_le c (by omega))]
            refine ih n (q + 1) b _ (by omega) (by omega) (Or.inr ⟨by omega, a2, rfl, fun q' hq' hp' => ?_⟩)
            by_cases e2 : q' = q
            · subst e2
              unfold btr
              omega
            · exact a4 q' (by omega) hp'
          · rw [if_neg (nI_ge (by omega) (by omega))]
            refine ih n (q + 1) q _ (by omega) (by omega) (Or.inr ⟨by omega, e, rfl, fun q' hq' hp' => ?_⟩)
            by_cases e2 : q' = q
            · subst e2; exact Or.inr ⟨rfl, Nat.le_refl _⟩
            · have := a4 q' (by omega) hp'
              unfold btr at this ⊢
              omega
      · rw [if_neg e]
        refine ih n (q + 1) b g (by omega) (by omega) ?_
        rcases h3 with ⟨rfl, h⟩ | ⟨a1, a2, a3, a4⟩
        · refine Or.inl ⟨rfl, fun q' hq' => ?_⟩
          by_cases e2 : q' = q
          · subst e2; simpa using e
          · exact h q' (by omega)
        · refine Or.inr ⟨by omega, a2, a3, fun q' hq' hp' => ?_⟩
          by_cases e2 : q' = q
          · subst e2; exact absurd hp' e
          · exact a4 q' (by omega) hp'
  obtain ⟨r, e1, e2⟩ := key 64 1000 0 0 (-1) (by omega) (by omega) (Or.inl ⟨rfl, fun q' h => by omega⟩)
  obtain ⟨q0, hq0, hp0⟩ := hP
  rcases e2 with h | ⟨b1, b2, b3⟩
  · rw [h q0 hq0] at hp0; cases hp0
  · exact ⟨r, b1, b2, e1, b3⟩
theorem victim_M (ht : TOLD I L s 1 N pg) (hN : N ≤ 40) (hs : s < 8) {J : jI} {H : Nat → Nat} {c i : Nat} (hc : 1 ≤ c ∧ c ≤ 16) (hi : i < N) (hH : ∀ j, j < c → H j < 64 ∧ J 175 j = nI (H j)) (k23 : Int32 → Option (Int32 × jI)) : ∃ r, r < c ∧ jfx (X7_foresight_F1 164 (nI s) (nI N) L (nI c) (nI i) J k23) (fun _ _ => none) 1000 (0 : Int32) (1 : Int32) = k23 (nI r) ∧ ∀ j, j < c → btr pg N (i + 1) (H r) (H j) := by
  have key : ∀ d n j b, j + d = c → d < n → b < j → (∀ j', j' < j → btr pg N (i + 1) (H b) (H j')) → ∃ r, r < c ∧ jfx (X7_foresight_F1 164 (nI s) (nI N) L (nI c) (nI i) J k23) (fun _ _ => none) n (nI b) (nI j) = k23 (nI r) ∧ ∀ j, j < c → btr pg N (i + 1) (H r) (H j) := by
    intro d
    induction d with
    | zero =>
      intro n j b h1 h2 h3 h4
      obtain ⟨n, rfl⟩ : ∃ q, n = q + 1 := ⟨n - 1, by omega⟩
      refine ⟨b, by omega, ?_, fun j' hj' => h4 j' (by omega)⟩
      rw [jfx_s, X7_foresight_F1, if_pos (nI_le (by omega) (by omega))]
    | succ d ih =>
      intro n j b h1 h2 h3 h4
      obtain ⟨n, rfl⟩ : ∃ q, n = q + 1 := ⟨n - 1, by omega⟩
      obtain ⟨x1, x2⟩ := hH j (by omega)
      obtain ⟨y1, y2⟩ := hH b (by omega)
      have l1 := nxD_le (pg := pg) (q := H j) (d := N - (i + 1)) (i := i + 1)
      have l2 := nxD_le (pg := pg) (q := H b) (d := N - (i + 1)) (i := i + 1)
      obtain ⟨a, ha⟩ : ∃ a, a = nxD pg (H j) (N - (i + 1)) (i + 1) := ⟨_, rfl⟩
      obtain ⟨a', ha'⟩ : ∃ a', a' = nxD pg (H b) (N - (i + 1)) (i + 1) := ⟨_, rfl⟩
      have jj : jin (nI j) 16 := jin_N (by omega) (by omega)
      have jb : jin (nI b) 16 := jin_N (by omega) (by omega)
      have eM : jfx (X7_foresight_F1 164 (nI s) (nI N) L (nI c) (nI i) J k23) (fun _ _ => none) (n + 1) (nI b) (nI j) = jfx (X7_foresight_F1 164 (nI s) (nI N) L (nI c) (nI i) J k23) (fun _ _ => none) n (if a' < a then nI j else if a = a' then (if H b ≤ H j then nI b else nI j) else nI b) (nI (j + 1)) := by
        rw [jfx_s, X7_foresight_F1, if_neg (nI_ge (by omega) (by omega)), if_pos jj, rMM.2.2.2.2.2.2.2, cl_N (by omega), cl_N (by omega), x2, y2, nI_1, next_M ht hN hs x1 (by omega), ob_some, if_pos jb, next_M ht hN hs y1 (by omega), ob_some, jlet_d, jlet_d, jlet_d, jlet_d, if_pos jj, if_pos jb, ← ha, ← ha', nI_1]
        by_cases c1 : a' < a
        · rw [if_pos ((dif_pos' (by omega) (by omega)).mpr c1), if_pos c1]
        · rw [if_neg (fun z => c1 ((dif_pos' (by omega) (by omega)).mp z)), if_neg c1]
          by_cases c2 : a = a'
          · rw [if_pos ((dif_zero (by omega) (by omega)).mpr c2), if_pos c2]
            by_cases c3 : H b ≤ H j
            · rw [if_pos (nI_le c3 (by omega)), if_pos c3]
            · rw [if_neg (nI_ge (by omega) (by omega)), if_neg c3]
          · rw [if_neg (fun z => c2 ((dif_zero (by omega) (by omega)).mp z)), if_neg c2]
      rw [eM]
      have selfB : ∀ q, btr pg N (i + 1) q q := fun q => Or.inr ⟨rfl, Nat.le_refl _⟩
      have takeJ : btr pg N (i + 1) (H j) (H b) → ∃ r, r < c ∧ jfx (X7_foresight_F1 164 (nI s) (nI N) L (nI c) (nI i) J k23) (fun _ _ => none) n (nI j) (nI (j + 1)) = k23 (nI r) ∧ ∀ j, j < c → btr pg N (i + 1) (H r) (H j) := fun hb =>
        ih n (j + 1) j (by omega) (by omega) (by omega) (fun j' hj' => by
          by_cases e : j' = j
          · subst e; exact selfB _
          · exact btr_tr hb (h4 j' (by omega)))
      have takeB : btr pg N (i + 1) (H b) (H j) → ∃ r, r < c ∧ jfx (X7_foresight_F1 164 (nI s) (nI N) L (nI c) (nI i) J k23) (fun _ _ => none) n (nI b) (nI (j + 1)) = k23 (nI r) ∧ ∀ j, j < c → btr pg N (i + 1) (H r) (H j) := fun hb =>
        ih n (j + 1) b (by omega) (by omega) (by omega) (fun j' hj' => by
          by_cases e : j' = j
          · subst e; exact hb
          · exact h4 j' (by omega))
      by_cases c1 : a' < a
      · rw [if_pos c1]; exact takeJ (Or.inl (by omega))
      · rw [if_neg c1]
        by_cases c2 : a = a'
        · rw [if_pos c2]
          by_cases c3 : H b ≤ H j
          · rw [if_pos c3]; exact takeB (Or.inr ⟨by omega, c3⟩)
          · rw [if_neg c3]; exact takeJ (Or.inr ⟨by omega, by omega⟩)
        · rw [if_neg c2]; exact takeB (Or.inl (by omega))
  exact key (c - 1) 1000 1 0 (by omega) (by omega) (by omega) (fun j' hj' => by
    rw [show j' = 0 by omega]; exact Or.inr ⟨rfl, Nat.le_refl _⟩)
theorem find_M {J : jI} {H : Nat → Nat} {c p : Nat} (hc : c ≤ 16) (hp : p < 64) (hH : ∀ j, j < c → H j < 64 ∧ J 175 j = nI (H j)) (k15 : Int32 → Option (Int32 × jI)) : ∃ r, r ≤ c ∧ jfx (X7_foresight_F2 164 (nI c) J (nI p) k15) (fun _ => none) 1000 (0 : Int32) = k15 (nI r) ∧ (r < c → H r = p) ∧ (r = c → ∀ j, j < c → ¬ H j = p) := by
  have key : ∀ d n j, j + d = c → d < n → (∀ j', j' < j → ¬ H j' = p) → ∃ r, r ≤ c ∧ jfx (X7_foresight_F2 164 (nI c) J (nI p) k15) (fun _ => none) n (nI j) = k15 (nI r) ∧ (r < c → H r = p) ∧ (r = c → ∀ j, j < c → ¬ H j = p) := by
    intro d
    induction d with
    | zero =>
      intro n j h1 h2 h3
      obtain ⟨n, rfl⟩ : ∃ q, n = q + 1 := ⟨n - 1, by omega⟩
      refine ⟨j, by omega, ?_, fun h => by omega, fun _ j' hj' => h3 j' (by omega)⟩
      rw [jfx_s, X7_foresight_F2, if_pos (nI_le (by omega) (by omega))]
    | succ d ih =>
      intro n j h1 h2 h3
      obtain ⟨n, rfl⟩ : ∃ q, n = q + 1 := ⟨n - 1, by omega⟩
      obtain ⟨x1, x2⟩ := hH j (by omega)
      have eM : jfx (X7_foresight_F2 164 (nI c) J (nI p) k15) (fun _ => none) (n + 1) (nI j) = if H j = p then k15 (nI j) else jfx (X7_foresight_F2 164 (nI c) J (nI p) k15) (fun _ => none) n (nI (j + 1)) := by
        rw [jfx_s, X7_foresight_F2, if_neg (nI_ge (by omega) (by omega)), if_pos (jin_N (by omega) (by omega)), rMM.2.2.2.2.2.2.2, cl_N (by omega), x2, nI_1, ifc (show (nI (H j) = nI p) ↔ (H j = p) from nI_eq (by omega) (by omega))]
      rw [eM]
      by_cases e : H j = p
      · rw [if_pos e]
        exact ⟨j, by omega, rfl, fun _ => e, fun h => by omega⟩
      · rw [if_neg e]
        exact ih n (j + 1) (by omega) (by omega) (fun j' hj' => by
          by_cases e2 : j' = j
          · subst e2; exact e
          · exact h3 j' (by omega))
  exact key c 1000 0 (by omega) (by omega) (fun j' hj' => by omega)
theorem sight_key (ht : TOLD I L s 1 N pg) (hN : N ≤ 40) (hs : s < 8) {sl : Nat} (hsl : 1 ≤ sl ∧ sl ≤ 16) : ∀ d n i (v : Int64) (hits : Int32) (c : Nat) (H : Nat → Nat) (J : jI), i + d = N → d < n → c ≤ sl → (∀ j, j < c → H j < 64 ∧ J 175 j = nI (H j)) → (∀ i j, i < c → j < c → H i = H j → i = j) → bits v (anyE H 0 c) →
    ∃ r J', jfx (X6_hitsByForesight_F1 1 (nI N) (nI sl) I) (fun _ _ _ => none) n v hits (nI i) = some r ∧ jfx (X7_foresight_F3 164 (nI s) (nI N) (nI sl) L) (fun _ _ _ _ => none) n (nI c) hits (nI i) J = some (r, J') ∧ ∀ r, r ≠ 175 → J' r = J r := by
  intro d
  induction d with
  | zero =>
    intro n i v hits c H J h1 h2 h3 h4 h5 h6
    obtain ⟨n, rfl⟩ : ∃ q, n = q + 1 := ⟨n - 1, by omega⟩
    refine ⟨hits, J, ?_, ?_, fun _ _ => rfl⟩
    · rw [jfx_s, X6_hitsByForesight_F1, if_pos (nI_le (by omega) (by omega))]
    · rw [jfx_s, X7_foresight_F3, if_pos (nI_le (by omega) (by omega))]
  | succ d ih =>
    intro n i v hits c H J h1 h2 h3 h4 h5 h6
    obtain ⟨n, rfl⟩ : ∃ q, n = q + 1 := ⟨n - 1, by omega⟩
    obtain ⟨p1, p2, p3, -⟩ := ht i (by omega)
    rw [Nat.one_mul] at p3
    have hcnt : J13_bitCount_95d88 v = some (nI c) := by
      rw [bitCount_b h6, cntB_anyE (fun j hj => by rw [Nat.zero_add]; exact (h4 j hj).1), dst_inj h5]
    have cC : jfx (X6_hitsByForesight_F1 1 (nI N) (nI sl) I) (fun _ _ _ => none) (n + 1) v hits (nI i) = if anyE H 0 c (pg i) = false then (if c < sl then jfx (X6_hitsByForesight_F1 1 (nI N) (nI sl) I) (fun _ _ _ => none) n (v ||| jlshl 1 (nI (pg i))) hits (nI (i + 1)) else (X6_toldLatest 1 v (nI (i + 1)) (nI N) I).bind (fun y19 => jfx (X6_hitsByForesight_F1 1 (nI N) (nI sl) I) (fun _ _ _ => none) n ((v &&& ((jlshl (1 : Int64) y19) ^^^ (-1 : Int64))) ||| jlshl 1 (nI (pg i))) hits (nI (i + 1)))) else jfx (X6_hitsByForesight_F1 1 (nI N) (nI sl) I) (fun _ _ _ => none) n v (hits + 1) (nI (i + 1)) := by
      rw [jfx_s, X6_hitsByForesight_F1, if_neg (nI_ge (by omega) (by omega)), told_e (by omega), ob_some, jlet_d, jlet_d, p2, ifc (and_at h6 p1), hcnt, ob_some]
      simp only [jlet_d]
      rw [nI_1, ifc (show (nI c < nI sl) ↔ c < sl from nI_ltI (by omega) (by omega))]
    have cM : ∀ (k : Int32 → Option (Int32 × jI)), k = (fun (v14 : Int32) =>
if nI c ≤ v14 then (
if nI sl ≤ nI c then (
jfx (X7_foresight_F1 164 (nI s) (nI N) L (nI c) (nI i) J (fun (v22 : Int32) =>
if jin v22 16 then jlet (jup J 175 (v22).toNatClampNeg (nI (pg i))) (fun (I25 : jI) =>
jfx (X7_foresight_F3 164 (nI s) (nI N) (nI sl) L) (fun _ _ _ _ => none) n (nI c) hits (nI (i + 1)) I25) else none)) (fun _ _ => none) 1000 (0 : Int32) (1 : Int32))
else (
if jin (nI c) 16 then jlet (jup J 175 (nI c).toNatClampNeg (nI (pg i))) (fun (I47 : jI) =>
jfx (X7_foresight_F3 164 (nI s) (nI N) (nI sl) L) (fun _ _ _ _ => none) n (nI (c + 1)) hits (nI (i + 1)) I47) else none))
else (
jfx (X7_foresight_F3 164 (nI s) (nI N) (nI sl) L) (fun _ _ _ _ => none) n (nI c) (hits + 1) (nI (i + 1)) J)) → jfx (X7_foresight_F3 164 (nI s) (nI N) (nI sl) L) (fun _ _ _ _ => none) (n + 1) (nI c) hits (nI i) J = jfx (X7_foresight_F2 164 (nI c) J (nI (pg i)) k) (fun _ => none) 1000 (0 : Int32) := fun k hk => by
      rw [jfx_s, X7_foresight_F3, if_neg (nI_ge (by omega) (by omega)), forty, if_pos (jin_N (by omega) (by omega)), jlet_d, jlet_d, rMM.2.2.2.2.1, rMM.2.2.2.2.2.2.2, cl_N (show 40 * s + i < 2147483648 by omega), p3, hk]
      refine congrArg (fun k => jfx (X7_foresight_F2 164 (nI c) J (nI (pg i)) k) (fun _ => none) 1000 (0 : Int32)) ?_
      funext v14
      rw [jlet_d, jlet_d, nI_1, nI_1]
    obtain ⟨kk, hkk⟩ : ∃ kk : Int32 → Option (Int32 × jI), kk = (fun (v14 : Int32) =>
if nI c ≤ v14 then (
if nI sl ≤ nI c then (
jfx (X7_foresight_F1 164 (nI s) (nI N) L (nI c) (nI i) J (fun (v22 : Int32) =>
if jin v22 16 then jlet (jup J 175 (v22).toNatClampNeg (nI (pg i))) (fun (I25 : jI) =>
jfx (X7_foresight_F3 164 (nI s) (nI N) (nI sl) L) (fun _ _ _ _ => none) n (nI c) hits (nI (i + 1)) I25) else none)) (fun _ _ => none) 1000 (0 : Int32) (1 : Int32))
else (
if jin (nI c) 16 then jlet (jup J 175 (nI c).toNatClampNeg (nI (pg i))) (fun (I47 : jI) =>
jfx (X7_foresight_F3 164 (nI s) (nI N) (nI sl) L) (fun _ _ _ _ => none) n (nI (c + 1)) hits (nI (i + 1)) I47) else none))
else (
jfx (X7_foresight_F3 164 (nI s) (nI N) (nI sl) L) (fun _ _ _ _ => none) n (nI c) (hits + 1) (nI (i + 1)) J)) := ⟨_, rfl⟩
    obtain ⟨r, hr, f1, f2, f3⟩ := find_M (p := pg i) (show c ≤ 16 by omega) p1 h4 kk
    rw [cC, cM kk hkk, f1, hkk]
    dsimp only
    by_cases hrc : r < c
    · have hany : anyE H 0 c (pg i) = true := anyE_iff.mpr ⟨r, hrc, by rw [Nat.zero_add]; exact f2 hrc⟩
      rw [hany, if_neg (show ¬ true = false by decide), if_neg (nI_ge (by omega) (by omega))]
      exact ih n (i + 1) v (hits + 1) c H J (by omega) (by omega) h3 h4 h5 h6
    · have hno := f3 (by omega)
      have hany : anyE H 0 c (pg i) = false := by
        cases e : anyE H 0 c (pg i) with
        | false => rfl
        | true =>
          obtain ⟨j, j1, j2⟩ := anyE_iff.mp e
          rw [Nat.zero_add] at j2
          exact absurd j2 (hno j j1)
      rw [hany, if_pos rfl, if_pos (nI_le (by omega) (by omega))]
      by_cases hfull : c < sl
      · rw [if_pos hfull, if_neg (nI_ge (by omega) (by omega)), if_pos (jin_N (by omega) (by omega)), jlet_d, cl_N (by omega)]
        obtain ⟨H', hH'⟩ : ∃ H' : Nat → Nat, H' = fun j => if j = c then pg i else H j := ⟨_, rfl⟩
        have e1 : H' c = pg i := by rw [hH']; exact if_pos rfl
        have e2 : ∀ j, j ≠ c → H' j = H j := fun j hj => by rw [hH']; exact if_neg hj
        obtain ⟨r', J', x1, x2, x3⟩ := ih n (i + 1) (v ||| jlshl 1 (nI (pg i))) hits (c + 1) H' (jup J 175 c (nI (pg i))) (by omega) (by omega) (by omega) (fun j hj => by
            rw [jup_q]
            by_cases e : j = c
            · subst e; rw [e1, ju1_eq]; exact ⟨p1, rfl⟩
            · rw [e2 j e, ju1_ne _ _ e]; exact h4 j (by omega)) (fun a b ha hb hab => by
            by_cases ea : a = c
            · by_cases eb : b = c
              · omega
              · subst ea; rw [e1, e2 b eb] at hab; exact absurd hab.symm (hno b (by omega))
            · by_cases eb : b = c
              · subst eb; rw [e1, e2 a ea] at hab; exact absurd hab (hno a (by omega))
              · rw [e2 a ea, e2 b eb] at hab; exact h5 a b (by omega) (by omega) hab) (bits_congr (bits_set h6 p1) (fun q _ => by
            rw [anyE_s, Nat.zero_add, e1, anyE_congr (pg := H) (pg' := H') (fun j hj => by rw [Nat.zero_add]; exact e2 j (by omega))]))
        exact ⟨r', J', x1, x2, fun r hr => by rw [x3 r hr, jup_ne _ _ hr]⟩
      · have hcs : c = sl := by omega
        rw [if_neg hfull, if_pos (nI_le (by omega) (by omega))]
        obtain ⟨q, q1, q2, q3, q4⟩ := latest_C ht hN h6 (show i + 1 ≤ N by omega) ⟨H 0, (h4 0 (by omega)).1, anyE_iff.mpr ⟨0, by omega, by rw [Nat.zero_add]⟩⟩
        obtain ⟨w, w1, w2, w3⟩ := victim_M ht hN hs (J := J) (H := H) (c := c) (i := i) (by omega) (by omega) h4 (fun (v22 : Int32) =>
if jin v22 16 then jlet (jup J 175 (v22).toNatClampNeg (nI (pg i))) (fun (I25 : jI) =>
jfx (X7_foresight_F3 164 (nI s) (nI N) (nI sl) L) (fun _ _ _ _ => none) n (nI c) hits (nI (i + 1)) I25) else none)
        obtain ⟨jq, jq1, jq2⟩ := anyE_iff.mp q2
        rw [Nat.zero_add] at jq2
        have hq : H w = q := btr_anti (by rw [← jq2]; exact w3 jq jq1) (q4 (H w) (h4 w w1).1 (anyE_iff.mpr ⟨w, w1, by rw [Nat.zero_add]⟩))
        rw [q3, ob_some, w2, if_pos (jin_N (by omega) (by omega)), jlet_d, cl_N (by omega)]
        obtain ⟨H', hH'⟩ : ∃ H' : Nat → Nat, H' = fun j => if j = w then pg i else H j := ⟨_, rfl⟩
        have e1 : H' w = pg i := by rw [hH']; exact if_pos rfl
        have e2 : ∀ j, j ≠ w → H' j = H j := fun j hj => by rw [hH']; exact if_neg hj
        obtain ⟨r', J', x1, x2, x3⟩ := ih n (i + 1) ((v &&& ((jlshl (1 : Int64) (nI q)) ^^^ (-1 : Int64))) ||| jlshl 1 (nI (pg i))) hits c H' (jup J 175 w (nI (pg i))) (by omega) (by omega) h3 (fun j hj => by
            rw [jup_q]
            by_cases e : j = w
            · subst e; rw [e1, ju1_eq]; exact ⟨p1, rfl⟩
            · rw [e2 j e, ju1_ne _ _ e]; exact h4 j (by omega)) (fun a b ha hb hab => by
            by_cases ea : a = w
            · by_cases eb : b = w
              · omega
              · subst ea; rw [e1, e2 b eb] at hab; exact absurd hab.symm (hno b (by omega))
            · by_cases eb : b = w
              · subst eb; rw [e1, e2 a ea] at hab; exact absurd hab (hno a (by omega))
              · rw [e2 a ea, e2 b eb] at hab; exact h5 a b (by omega) (by omega) hab) (bits_congr (bits_set (bits_and h6 (bits_not (bits_one q1))) p1) (fun y hy => by
            apply Bool.eq_iff_iff.mpr
            rw [Bool.or_eq_true, Bool.and_eq_true, anyE_iff, anyE_iff, decide_eq_true_iff]
            constructor
            · rintro (⟨⟨j, j1, j2⟩, hne⟩ | rfl)
              · rw [Nat.zero_add] at j2
                have hne' : ¬ q = y := by simpa using hne
                refine ⟨j, j1, ?_⟩
                rw [Nat.zero_add, e2 j (fun e => hne' (by rw [← hq, ← e]; exact j2))]
                exact j2
              · exact ⟨w, w1, by rw [Nat.zero_add]; exact e1⟩
            · rintro ⟨j, j1, j2⟩
              rw [Nat.zero_add] at j2
              by_cases e : j = w
              · subst e; rw [e1] at j2; exact Or.inr j2
              · rw [e2 j e] at j2
                refine Or.inl ⟨⟨j, j1, by rw [Nat.zero_add]; exact j2⟩, ?_⟩
                have : ¬ q = y := fun z => e (h5 j w j1 w1 (by rw [j2, hq, z]))
                simpa using this))
        exact ⟨r', J', x1, x2, fun r hr => by rw [x3 r hr, jup_ne _ _ hr]⟩
end FS
section FO
variable {B cnt mode T : Nat} {S : Nat → Nat} {I : jI} {L : jL}
theorem t_foresight (h : GG B cnt mode T S I L) (x y z : Int32) : Two B L (fun I => X6_foresight 1 x y z I L) (fun I => X7_foresight 164 x y z I L) I := by
  have fin : ∀ f, (f = 0 ∨ f = 1) → X6_isWithin z 1 16 = some f → Two B L (fun I => X6_foresight 1 x y z I L) (fun I => X7_foresight 164 x y z I L) I := by
    intro f hf hz
    rcases hear_c h x y f hf with ⟨r, I1, I2, r0, c1, -, c2, c3, c4, c5⟩ | ⟨rfl, s, zz, N, pg, I9, hs, rfl, rfl, hN, hz40, c1, c2, ht, hG, cM⟩
    · refine ⟨r, I1, I2, ?_, ?_, cnt, mode, T, S, c3.mono (by omega)⟩
      · show X6_foresight 1 x y z I L = _
        unfold X6_foresight
        rw [hz, ob_some, c1, jb2_some, if_neg r0]
      · show X7_foresight 164 x y z I1 L = _
        unfold X7_foresight
        rw [within_e z 1 16 1 16 rfl rfl, hz, ob_some, jlet_d]
        rcases hf with rfl | rfl
        · rw [if_pos rfl, ← c4 rfl]
          dsimp only
          rw [if_neg r0, c2, jb2_some]
        · rw [if_neg (by decide), c5 rfl, ob_some]
          dsimp only
          rw [if_neg r0, c2, jb2_some]
    · have hz2 : ∃ w, 1 ≤ w ∧ w ≤ 16 ∧ z = nI w := by
        rcases wi_c z 1 16 1 16 rfl rfl with q | ⟨-, w, hw1, hw, -, e⟩
        · rw [hz] at q; exact absurd (Option.some.inj q) (by decide)
        · exact ⟨w, hw1, by omega, e⟩
      obtain ⟨w, hw1, hw, rfl⟩ := hz2
      obtain ⟨r, J', e1, e2, e3⟩ := sight_key ht (by omega) hs (sl := w) ⟨hw1, hw⟩ N 1000 0 0 0 0 (fun _ => 0) I9 (by omega) (by omega) (by omega) (fun j hj => by omega) (fun i j hi => by omega) (bits_congr bits_0 (fun i _ => rfl))
      have hU : UN I9 J' := ⟨fun r k hr => by rw [e3 r (by omega)], fun r k a b => by rw [e3 r (by omega)], fun i _ => by rw [e3 165 (by omega)]⟩
      refine ⟨r, I9, J', ?_, ?_, cnt, mode, T, S, (hG.un hU).mono (by omega)⟩
      · show X6_foresight 1 (nI s) (nI N) (nI w) I L = _
        unfold X6_foresight X6_hitsByForesight
        rw [hz, ob_some, c1, jb2_some, if_pos rfl, show jfx (X6_hitsByForesight_F1 1 (nI N) (nI w) I9) (fun _ _ _ => none) 1000 (0 : Int64) (0 : Int32) (0 : Int32) = some r from e1, ob_some]
      · show X7_foresight 164 (nI s) (nI N) (nI w) I9 L = _
        unfold X7_foresight
        rw [within_e _ 1 16 1 16 rfl rfl, hz, ob_some, jlet_d, if_neg (by decide), cM I9 (c2 _ (by omega)) (c2 _ (by omega)), ob_some]
        dsimp only
        rw [if_pos rfl]
        exact e2
  rcases wi_c z 1 16 1 16 rfl rfl with hz | ⟨hz, -⟩
  · exact fin 0 (Or.inl rfl) hz
  · exact fin 1 (Or.inr rfl) hz
end FO
