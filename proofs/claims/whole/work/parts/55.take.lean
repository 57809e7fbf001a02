/-! A STORE that is taken over from another -/
def cf (d b k : Nat) (I : jI) : jI := jup I d k (I b k)
def cr (d b : Nat) (N : Int32) (I : jI) : jI := jrow I d (va_cpy (I b) (I d) ((0 : Int32)).toNatClampNeg ((0 : Int32)).toNatClampNeg (N).toNatClampNeg)
theorem cf_eq {d b k : Nat} {I : jI} : cf d b k I d k = I b k := by unfold cf; rw [jup_q, ju1_eq]
theorem cf_ne {d b k j : Nat} {I : jI} (h : j ≠ k) : cf d b k I d j = I d j := by unfold cf; rw [jup_q, ju1_ne _ _ h]
theorem cf_row {d b k r : Nat} {I : jI} (h : r ≠ d) : cf d b k I r = I r := by unfold cf; rw [jup_ne _ _ h]
theorem cr_row {d b r : Nat} {N : Int32} {I : jI} (h : r ≠ d) : cr d b N I r = I r := by unfold cr; rw [jrow_ne _ _ h]
theorem cr_eq {d b j : Nat} {N : Int32} {I : jI} (h : j < N.toNatClampNeg) : cr d b N I d j = I b j := by
  unfold cr va_cpy
  rw [jrow_self, show ((0 : Int32)).toNatClampNeg = 0 from rfl, if_pos (by omega)]
  congr 1
  omega
theorem cr16 {d b j : Nat} {I : jI} (h : j < 16) : cr d b 16 I d j = I b j := cr_eq (by rw [show ((16 : Int32)).toNatClampNeg = 16 from rfl]; exact h)
theorem cr20 {d b j : Nat} {I : jI} (h : j < 20) : cr d b 20 I d j = I b j := cr_eq (by rw [show ((20 : Int32)).toNatClampNeg = 20 from rfl]; exact h)
theorem cr64 {d b j : Nat} {I : jI} (h : j < 64) : cr d b 64 I d j = I b j := cr_eq (by rw [show ((64 : Int32)).toNatClampNeg = 64 from rfl]; exact h)
theorem jl_cf {ρ : Type} {d b k : Nat} {I : jI} {f : jI → Option ρ} : jlet (jup I d k (I b k)) f = f (cf d b k I) := rfl
theorem jl_cr {ρ : Type} {d b : Nat} {N : Int32} {I : jI} {f : jI → Option ρ} : jlet (jrow I d (va_cpy (I b) (I d) ((0 : Int32)).toNatClampNeg ((0 : Int32)).toNatClampNeg (N).toNatClampNeg)) f = f (cr d b N I) := rfl
theorem takeL_key {d b : Nat} (hd : LB d) (hb : LB b) (hdb : d + 9 ≤ b ∨ b + 9 ≤ d) : ∀ e n k (I : jI), k + e = 16 → e < n → (∀ j, j < k → I (d + 3) j = jnz (I (b + 3) j) ∧ I (d + 7) j = jnz (I (b + 7) j)) →
    ∃ I', jfx (X2_takeFrom_F1 d b) (fun _ _ => none) n (nI k) I = some I' ∧ (∀ r, r ≠ d + 3 → r ≠ d + 7 → I' r = I r) ∧ ∀ j, j < 16 → I' (d + 3) j = jnz (I (b + 3) j) ∧ I' (d + 7) j = jnz (I (b + 7) j) := by
  obtain ⟨-, -, -, d3, -, -, -, d7, -⟩ := hd
  obtain ⟨-, -, -, b3, -, -, -, b7, -⟩ := hb
  intro e
  induction e with
  | zero =>
    intro n k I h1 h2 h3
    obtain ⟨n, rfl⟩ : ∃ q, n = q + 1 := ⟨n - 1, by omega⟩
    refine ⟨I, ?_, fun _ _ _ => rfl, fun j hj => h3 j (by omega)⟩
    rw [jfx_s, X2_takeFrom_F1, if_pos (lle (16 : Int32) 16 rfl (by omega) (by omega))]
  | succ e ih =>
    intro n k I h1 h2 h3
    obtain ⟨n, rfl⟩ : ∃ q, n = q + 1 := ⟨n - 1, by omega⟩
    obtain ⟨I0, hI0⟩ : ∃ I0, I0 = jup (jup I (d + 3) k (jnz (I (b + 3) k))) (d + 7) k (jnz (I (b + 7) k)) := ⟨_, rfl⟩
    have e0 : ∀ r, r ≠ d + 3 → r ≠ d + 7 → I0 r = I r := fun r a c => by rw [hI0, jup_ne _ _ c, jup_ne _ _ a]
    have e3 : ∀ j, I0 (d + 3) j = if j = k then jnz (I (b + 3) k) else I (d + 3) j := fun j => by
      rw [hI0, jup_ne _ _ (by omega), jup_q]
      by_cases c : j = k
      · subst c; rw [ju1_eq, if_pos rfl]
      · rw [ju1_ne _ _ c, if_neg c]
    have e7 : ∀ j, I0 (d + 7) j = if j = k then jnz (I (b + 7) k) else I (d + 7) j := fun j => by
      rw [hI0, jup_q]
      by_cases c : j = k
      · subst c; rw [ju1_eq, if_pos rfl]
      · rw [ju1_ne _ _ c, if_neg c, jup_ne _ _ (by omega)]
    obtain ⟨I', a1, a2, a3⟩ := ih n (k + 1) I0 (by omega) (by omega) (fun j hj => by
      rw [e3, e7, e0 _ (by omega) (by omega), e0 _ (by omega) (by omega)]
      by_cases c : j = k
      · subst c; rw [if_pos rfl, if_pos rfl]; exact ⟨rfl, rfl⟩
      · rw [if_neg c, if_neg c]; exact h3 j (by omega))
    refine ⟨I', ?_, fun r x y => by rw [a2 r x y, e0 r x y], fun j hj => by
      have := a3 j hj
      rw [e0 _ (by omega) (by omega), e0 _ (by omega) (by omega)] at this
      exact this⟩
    rw [jfx_s, X2_takeFrom_F1, if_neg (lge (16 : Int32) 16 rfl (by omega) (by omega)), if_pos (jin_N (by omega) (by omega)), if_pos (jin_N (by omega) (by omega)), jlet_d, if_pos (jin_N (by omega) (by omega)), if_pos (jin_N (by omega) (by omega)), jlet_d, d3, b3, d7, b7, cl_N (by omega), jup_ne _ _ (show b + 7 ≠ d + 3 by omega), ← hI0, show nI k + (1 : Int32) = nI (k + 1) from nI_1 k]
    exact a1
theorem takeL_e {d b : Nat} (hd : LB d) (hb : LB b) (hdb : d + 9 ≤ b ∨ b + 9 ≤ d) (I : jI) : ∃ I', X2_takeFrom d b I = some I' ∧ (∀ r, (r < d ∨ d + 9 ≤ r) → I' r = I r) ∧ (∀ k, k ≤ 10 → I' d k = I b k) ∧ (∀ k, k < 16 → I' (d + 1) k = I (b + 1) k ∧ I' (d + 2) k = I (b + 2) k ∧ I' (d + 4) k = I (b + 4) k ∧ I' (d + 5) k = I (b + 5) k ∧ I' (d + 6) k = I (b + 6) k) ∧ (∀ p, p < 64 → I' (d + 8) p = I (b + 8) p) ∧ ∀ j, j < 16 → I' (d + 3) j = jnz (I (b + 3) j) ∧ I' (d + 7) j = jnz (I (b + 7) j) := by
  obtain ⟨I0, hI0⟩ : ∃ I0, I0 = cr (d + 8) (b + 8) 64 (cr (d + 6) (b + 6) 16 (cr (d + 5) (b + 5) 16 (cr (d + 4) (b + 4) 16 (cr (d + 2) (b + 2) 16 (cr (d + 1) (b + 1) 16 (cf d b 10 (cf d b 9 (cf d b 8 (cf d b 7 (cf d b 6 (cf d b 5 (cf d b 4 (cf d b 3 (cf d b 2 (cf d b 1 (cf d b 0 I)))))))))))))))) := ⟨_, rfl⟩
  obtain ⟨I', a1, a2, a3⟩ := takeL_key hd hb hdb 16 1000 0 I0 (by omega) (by omega) (fun j hj => by omega)
  have e0 : ∀ r, (r < d ∨ d + 9 ≤ r ∨ r = d + 3 ∨ r = d + 7) → I0 r = I r := fun r hr => by
    rw [hI0]
    simp (disch := omega) only [cf_row, cr_row]
  refine ⟨I', ?_, fun r hr => by rw [a2 r (by omega) (by omega), e0 r (by omega)], fun k hk => ?_, fun k hk => ⟨?_, ?_, ?_, ?_, ?_⟩, fun p hp => ?_, fun j hj => ?_⟩
  · obtain ⟨-, d1, d2, d3, d4, d5, d6, d7, d8⟩ := hd
    obtain ⟨-, b1, b2, b3, b4, b5, b6, b7, b8⟩ := hb
    unfold X2_takeFrom
    rw [d1, d2, d4, d5, d6, d8, b1, b2, b4, b5, b6, b8]
    rw [jl_cf, jl_cf, jl_cf, jl_cf, jl_cf, jl_cf, jl_cf, jl_cf, jl_cf, jl_cf, jl_cf, if_pos (by decide), jl_cr, if_pos (by decide), jl_cr, if_pos (by decide), jl_cr, if_pos (by decide), jl_cr, if_pos (by decide), jl_cr, if_pos (by decide), jl_cr, ← hI0]
    exact a1
  · rw [a2 d (by omega) (by omega), hI0]
    obtain rfl | rfl | rfl | rfl | rfl | rfl | rfl | rfl | rfl | rfl | rfl : k = 0 ∨ k = 1 ∨ k = 2 ∨ k = 3 ∨ k = 4 ∨ k = 5 ∨ k = 6 ∨ k = 7 ∨ k = 8 ∨ k = 9 ∨ k = 10 := by omega
    all_goals simp (disch := omega) only [cf_eq, cf_ne, cf_row, cr_row]
  · rw [a2 _ (by omega) (by omega), hI0]; simp (disch := omega) only [cf_row, cr_row, cr16]
  · rw [a2 _ (by omega) (by omega), hI0]; simp (disch := omega) only [cf_row, cr_row, cr16]
  · rw [a2 _ (by omega) (by omega), hI0]; simp (disch := omega) only [cf_row, cr_row, cr16]
  · rw [a2 _ (by omega) (by omega), hI0]; simp (disch := omega) only [cf_row, cr_row, cr16]
  · rw [a2 _ (by omega) (by omega), hI0]; simp (disch := omega) only [cf_row, cr_row, cr16]
  · rw [a2 _ (by omega) (by omega), hI0]; simp (disch := omega) only [cf_row, cr_row, cr64]
  · have := a3 j hj
    rw [e0 _ (by omega), e0 _ (by omega)] at this
    exact this
theorem jnz01 {x : Int32} (h : x = 0 ∨ x = 1) : jnz x = x := by rcases h with rfl | rfl <;> rfl
/-- a level copied -/
theorem LR.copy {B b d : Nat} {I I' : jI} {m : Mn} {l s : Nat} (h : LR B b I m l s) (h1 : ∀ k, k ≤ 10 → I' d k = I b k) (h2 : ∀ k, k < 16 → I' (d + 1) k = I (b + 1) k ∧ I' (d + 2) k = I (b + 2) k ∧ I' (d + 4) k = I (b + 4) k ∧ I' (d + 5) k = I (b + 5) k ∧ I' (d + 6) k = I (b + 6) k) (h3 : ∀ p, p < 64 → I' (d + 8) p = I (b + 8) p) (h4 : ∀ j, j < 16 → I' (d + 3) j = jnz (I (b + 3) j) ∧ I' (d + 7) j = jnz (I (b + 7) j)) : LR B d I' m l s := by
  obtain ⟨a1, a2, a3⟩ := h
  refine ⟨?_, fun k hk => ?_, fun p hp => ?_⟩
  · unfold LSC at a1 ⊢
    rw [h1 0 (by omega), h1 1 (by omega), h1 2 (by omega), h1 3 (by omega), h1 4 (by omega), h1 5 (by omega), h1 6 (by omega), h1 7 (by omega), h1 8 (by omega), h1 9 (by omega), h1 10 (by omega)]
    exact a1
  · obtain ⟨x1, x2⟩ := a2 k hk
    obtain ⟨y1, y2, y4, y5, y6⟩ := h2 k hk
    obtain ⟨y3, y7⟩ := h4 k hk
    refine ⟨by rw [y1]; exact x1, ?_⟩
    rcases x2 with ⟨z1, z2⟩ | ⟨p, z1, z2, z3, z4, z5, ⟨z6, z7⟩, z8, z9, z10, z11, z12⟩
    · exact Or.inl ⟨z1, by rw [y3, z2]; rfl⟩
    · refine Or.inr ⟨p, z1, z2, z3, by rw [h3 p z1]; exact z4, by rw [y2]; exact z5, ⟨by rw [y3, jnz01 (by rw [z6]; exact z7)]; exact z6, z7⟩, by rw [y4]; exact z8, by rw [y5]; exact z9, by rw [y6]; exact z10, by rw [y7, jnz01 (by rw [z11]; exact z12)]; exact z11, z12⟩
  · rcases a3 p hp with z | ⟨k, z1, z2, z3⟩
    · exact Or.inl (by rw [h3 p hp]; exact z)
    · exact Or.inr ⟨k, z1, by rw [h3 p hp]; exact z2, z3⟩
theorem takeS_key {B a o cnt : Nat} (ha : OB a) (ho : OB o) (hao : a ≠ o) {S : Nat → Nat} {m : Mn} (hc4 : cnt ≤ 4) : ∀ e n i (I : jI), I o 1 = nI cnt → I a 1 = nI cnt → (∀ j, j < cnt → LR B (o + 10 + 9 * j) I m j (S j)) → (∀ j, j < i → LR B (a + 10 + 9 * j) I m j (S j)) → i + e = cnt → e < n →
    ∃ I', (∀ k, jfx (X4_takeFrom_F1 a o k) (fun _ _ => none) n (nI (i + 1)) I = k I') ∧ (∀ r, (r < a + 10 ∨ a + 46 ≤ r) → I' r = I r) ∧ ∀ j, j < cnt → LR B (a + 10 + 9 * j) I' m j (S j) := by
  have hsep : a + 46 ≤ o ∨ o + 46 ≤ a := by
    rcases ha with rfl | rfl | rfl <;> rcases ho with rfl | rfl | rfl <;> omega
  intro e
  induction e with
  | zero =>
    intro n i I hc hca hL hA h1 h2
    obtain ⟨n, rfl⟩ : ∃ q, n = q + 1 := ⟨n - 1, by omega⟩
    refine ⟨I, fun k => ?_, fun _ _ => rfl, fun j hj => hA j (by omega)⟩
    rw [jfx_s, X4_takeFrom_F1, hca, if_pos (nI_lt (by omega) (by omega))]
  | succ e ih =>
    intro n i I hc hca hL hA h1 h2
    obtain ⟨n, rfl⟩ : ∃ q, n = q + 1 := ⟨n - 1, by omega⟩
    obtain ⟨I1, t1, t2, t3, t4, t5, t6⟩ := takeL_e (LB_o ha (show i < 4 by omega)) (LB_o ho (show i < 4 by omega)) (by omega) I
    obtain ⟨I', f1, f2, f3⟩ := ih n (i + 1) I1 (by rw [t2 _ (by omega)]; exact hc) (by rw [t2 _ (by omega)]; exact hca) (fun j hj => (hL j hj).congr (fun r _ _ => t2 r (by omega)) (fun _ _ _ => rfl)) (fun j hj => by
      by_cases c : j = i
      · subst c; exact (hL j (by omega)).copy t3 t4 t5 t6
      · exact (hA j (by omega)).congr (fun r _ _ => t2 r (by omega)) (fun _ _ _ => rfl)) (by omega) (by omega)
    refine ⟨I', fun k => ?_, fun r hr => by rw [f2 r hr, t2 r (by omega)], f3⟩
    rw [jfx_s, X4_takeFrom_F1, hca, if_neg (nI_nlt (by omega) (by omega)), levelAt_e ha I hca hc4 (show i < cnt by omega), ob_some, levelAt_e ho I hc hc4 (show i < cnt by omega), ob_some, jlet_d, if_neg (LB_o ha (show i < 4 by omega)).1, if_neg (LB_o ho (show i < 4 by omega)).1, t1, ob_some, show nI (i + 1) + (1 : Int32) = nI (i + 1 + 1) from nI_1 _]
    exact f1 k
theorem takeS {B a o cnt mode T : Nat} (ha : OB a) (ho : OB o) (hao : a ≠ o) {S : Nat → Nat} {I : jI} {m : Mn} (h : ST B o cnt mode T S I m) : ∃ I', X4_takeFrom a o I = some I' ∧ ST B a cnt mode T S I' m ∧ ∀ r, (r < a ∨ a + 46 ≤ r) → I' r = I r := by
  have hsep : a + 46 ≤ o ∨ o + 46 ≤ a := by
    rcases ha with rfl | rfl | rfl <;> rcases ho with rfl | rfl | rfl <;> omega
  obtain ⟨⟨rr, a1, a2, a3⟩, a4⟩ := h.2.2.2.2.2.1
  obtain ⟨⟨g1, g1', g1''⟩, ⟨x1, x2, x3, x4, x5, x6⟩, g3, ⟨y1, y2, y3, y, y4, y5, y6⟩, g5, g6, ⟨⟨f, c1, c2, c3⟩, ⟨b1, b2⟩, ⟨ah, d1, d2, d3⟩, p10, p12, ⟨dd, q1, q2, q3⟩, htimes, h702, hX⟩⟩ := h
  obtain ⟨I1, k1, k2, k3⟩ := takeS_key (B := B) ha ho hao (S := S) (m := m) g1 cnt 1000 0 (cf a o 1 I) ((congrFun (cf_row (by omega)) 1).trans x1) (cf_eq.trans x1) (fun j hj => (g3 j hj).congr (fun r _ _ => cf_row (by omega)) (fun _ _ _ => rfl)) (fun j hj => by omega) (by omega) (by omega)
  rw [show nI (0 + 1) = (1 : Int32) from rfl] at k1
  obtain ⟨I0, hI0⟩ : ∃ I0, I0 = cr (a + 9) (o + 9) 64 (cr (a + 8) (o + 8) 20 (cr (a + 7) (o + 7) 20 (cr (a + 6) (o + 6) 20 (cr (a + 5) (o + 5) 20 (cf (a + 3) (o + 3) 1 (cf (a + 3) (o + 3) 0 (cf a o 13 (cf a o 12 (cf a o 11 (cf a o 10 (cf a o 9 (cf a o 8 (cf a o 7 (cf a o 6 (cf a o 5 (cf a o 4 (cf a o 3 (cr (a + 2) (o + 2) 64 I1)))))))))))))))))) := ⟨_, rfl⟩
  have e0 : ∀ r, (r < a ∨ a + 10 ≤ r) → I0 r = I1 r := fun r hr => by rw [hI0]; simp (disch := omega) only [cf_row, cr_row]
  have ef : ∀ k, (k = 1 ∨ (3 ≤ k ∧ k ≤ 13)) → I0 a k = I o k := fun k hk => by
    rw [hI0]
    obtain rfl | rfl | rfl | rfl | rfl | rfl | rfl | rfl | rfl | rfl | rfl | rfl : k = 1 ∨ k = 3 ∨ k = 4 ∨ k = 5 ∨ k = 6 ∨ k = 7 ∨ k = 8 ∨ k = 9 ∨ k = 10 ∨ k = 11 ∨ k = 12 ∨ k = 13 := by omega
    all_goals simp (disch := omega) only [cf_eq, cf_ne, cf_row, cr_row, k2]
  have em : ∀ p, p < 64 → I0 (a + 2) p = I (o + 2) p ∧ I0 (a + 9) p = I (o + 9) p := fun p hp => by
    rw [hI0]
    constructor <;> simp (disch := omega) only [cf_row, cr_row, cr64, k2]
  have ed : I0 (a + 3) 0 = I (o + 3) 0 ∧ I0 (a + 3) 1 = I (o + 3) 1 := by
    rw [hI0]
    constructor <;> simp (disch := omega) only [cf_eq, cf_ne, cf_row, cr_row, k2]
  have eh : ∀ k, k < 20 → I0 (a + 5) k = I (o + 5) k ∧ I0 (a + 6) k = I (o + 6) k ∧ I0 (a + 7) k = I (o + 7) k ∧ I0 (a + 8) k = I (o + 8) k := fun k hk => by
    rw [hI0]
    refine ⟨?_, ?_, ?_, ?_⟩ <;> simp (disch := omega) only [cf_row, cr_row, cr20, k2]
  refine ⟨I0, ?_, ⟨⟨g1, g1', g1''⟩, ⟨by rw [ef _ (by omega)]; exact x1, x2, by rw [ef _ (by omega)]; exact x3, x4, by rw [ef _ (by omega)]; exact x5, x6⟩, fun j hj => (k3 j hj).congr (fun r _ _ => e0 r (by omega)) (fun _ _ _ => rfl), ⟨fun p hp => by rw [(em p hp).1]; exact y1 p hp, by rw [ef _ (by omega)]; exact y2, by rw [ed.1]; exact y3, y, y4, by rw [ef _ (by omega)]; exact y5, y6⟩, g5, ⟨⟨rr, a1, by rw [ef _ (by omega)]; exact a2, a3⟩, by rw [ef _ (by omega)]; exact a4⟩, ⟨⟨f, c1, by rw [ef _ (by omega)]; exact c2, c3⟩, ⟨by rw [ef _ (by omega)]; exact b1, b2⟩, ⟨ah, d1, by rw [ef _ (by omega)]; exact d2, d3⟩, by rw [ef _ (by omega)]; exact p10, by rw [ef _ (by omega)]; exact p12, ⟨dd, q1, by rw [ed.2]; exact q2, q3⟩, fun p hp => by rw [(em p hp).2]; exact htimes p hp, h702, fun i hi => ?_⟩⟩, fun r hr => by rw [e0 r (by omega), k2 r (by omega), cf_row (by omega)]⟩
  · obtain ⟨z1, z2, z3, z4, z5, z6, z7, z8, z9, -⟩ := SB_o ha
    obtain ⟨w1, w2, w3, w4, w5, w6, w7, w8, w9, -⟩ := SB_o ho
    unfold X4_takeFrom
    rw [jl_cf, jlet_d]
    refine (k1 _).trans ?_
    unfold X0_takeFrom X1_takeFrom
    rw [z2, z3, z4, z5, z6, z7, z8, z9, w2, w3, w4, w5, w6, w7, w8, w9]
    rw [if_pos (by decide), jl_cr, jl_cf, jl_cf, jl_cf, jl_cf, jl_cf, jl_cf, jl_cf, jl_cf, jl_cf, jl_cf, jl_cf, jl_cf, jl_cf, ob_some, if_pos (by decide), jl_cr, if_pos (by decide), jl_cr, if_pos (by decide), jl_cr, if_pos (by decide), jl_cr, if_pos (by decide), jl_cr, ob_some, ← hI0]
  · have hlt := Nat.mod_lt (T + 20 - i) (show 0 < 20 by omega)
    obtain ⟨u1, u2, u3, u4⟩ := eh _ hlt
    rw [u1, u2, u3, u4]
    exact hX i hi
