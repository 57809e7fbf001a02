/-! COPY: on both sides -/
theorem sub_int {z : Nat} (hz : z ≤ 40) (p : Int32) (hp : 0 ≤ p.toInt) : (nI z - p).toInt = (z : Int) - p.toInt := by
  have h2 := Int32.toInt_lt p
  rw [Int32.toInt_sub, nI_toInt (by omega)]
  unfold Int.bmod
  simp only [Int32.size]
  split <;> omega
theorem lt0 (p : Int32) : (p < 0) = (p.toInt < 0) := by
  apply propext
  rw [Int32.lt_iff_toInt_lt]
  rfl
theorem hasEls {c z : Nat} (hz : z ≤ 40) {I : jI} (hI : I c 2 = nI z) (p n : Int32) : X3_hasElements c p n I = if 0 ≤ p.toInt ∧ 0 ≤ n.toInt ∧ p.toInt + n.toInt ≤ z then some 1 else some 0 := by
  unfold X3_hasElements
  rw [hI]
  simp only [lt0]
  by_cases h1 : p.toInt < 0
  · rw [if_pos h1, if_neg (by omega)]
  · rw [if_neg h1]
    by_cases h2 : n.toInt < 0
    · rw [if_pos h2, if_neg (by omega)]
    · rw [if_neg h2]
      by_cases h3 : nI z < p
      · have := Int32.lt_iff_toInt_lt.mp h3
        rw [nI_toInt (by omega)] at this
        rw [if_pos h3, if_neg (by omega)]
      · rw [if_neg h3]
        by_cases h4 : nI z - p < n
        · have := Int32.lt_iff_toInt_lt.mp h4
          rw [sub_int hz p (by omega)] at this
          rw [if_pos h4, if_neg (by omega)]
        · have : ¬ (nI z - p).toInt < n.toInt := fun h => h4 (Int32.lt_iff_toInt_lt.mpr h)
          rw [sub_int hz p (by omega)] at this
          rw [if_neg h4, if_pos (by omega)]
theorem i10 : ((1 : Int32) = 0) = False := by decide
theorem i00 : ((0 : Int32) = 0) = True := by decide
theorem copM1 {s i N : Nat} (hs : s < 8) (h : i + N ≤ 40) : ∀ d n u (L : jL), u + d = N → d < n → 
    ∃ L', (∀ k, jfx (X7_copy_F2 164 (nI s) (nI i) (nI N) k) (fun _ _ => none) n (nI u) L = k L') ∧ (∀ r, r ≠ 173 → L' r = L r) ∧ (∀ j, u ≤ j → j < N → L' 173 j = L 172 (40 * s + i + j)) ∧ (∀ j, j < u → L' 173 j = L 173 j) := by
  intro d
  induction d with
  | zero =>
    intro n u L h1 h2
    obtain ⟨n, rfl⟩ : ∃ q, n = q + 1 := ⟨n - 1, by omega⟩
    refine ⟨L, fun k => ?_, fun _ _ => rfl, fun j _ _ => by omega, fun _ _ => rfl⟩
    rw [jfx_s, X7_copy_F2, if_pos (nI_le (by omega) (by omega))]
  | succ d ih =>
    intro n u L h1 h2
    obtain ⟨n, rfl⟩ : ∃ q, n = q + 1 := ⟨n - 1, by omega⟩
    obtain ⟨L', e1, e2, e3, e4⟩ := ih n (u + 1) (jup L 173 u (L 172 (40 * s + i + u))) (by omega) (by omega)
    refine ⟨L', fun k => ?_, fun r hr => by rw [e2 r hr, jup_ne _ _ hr], fun j a b => ?_, fun j a => by rw [e4 j (by omega), jup_q, ju1_ne _ _ (by omega)]⟩
    · rw [jfx_s, X7_copy_F2, if_neg (nI_ge (by omega) (by omega)), forty, nI_add, if_pos (jin_N (by omega) (by omega)), if_pos (jin_N (by omega) (by omega)), jlet_d, rMM.2.2.2.2.1, rMM.2.2.2.2.2.1, cl_N (by omega), cl_N (by omega), show nI u + (1 : Int32) = nI (u + 1) from nI_1 u]
      exact e1 k
    · by_cases e : j = u
      · subst e; rw [e4 j (by omega), jup_q, ju1_eq]
      · rw [e3 j (by omega) b, jup_ne _ _ (by omega)]
theorem copM2 {t i N : Nat} (ht : t < 8) (h : i + N ≤ 40) (I : jI) : ∀ d n u (L : jL), u + d = N → d < n → 
    ∃ L', jfx (X7_copy_F1 164 (nI t) (nI i) (nI N) I) (fun _ _ => none) n (nI u) L = some (nI N, I, L') ∧ (∀ r j, (r ≠ 172 ∨ j < 40 * t + i + u ∨ 40 * t + i + N ≤ j) → L' r j = L r j) ∧ (∀ j, u ≤ j → j < N → L' 172 (40 * t + i + j) = L 173 j) := by
  intro d
  induction d with
  | zero =>
    intro n u L h1 h2
    obtain ⟨n, rfl⟩ : ∃ q, n = q + 1 := ⟨n - 1, by omega⟩
    refine ⟨L, ?_, fun _ _ _ => rfl, fun j _ _ => by omega⟩
    rw [jfx_s, X7_copy_F1, if_pos (nI_le (by omega) (by omega))]
  | succ d ih =>
    intro n u L h1 h2
    obtain ⟨n, rfl⟩ : ∃ q, n = q + 1 := ⟨n - 1, by omega⟩
    obtain ⟨L', e1, e2, e3⟩ := ih n (u + 1) (jup L 172 (40 * t + i + u) (L 173 u)) (by omega) (by omega)
    refine ⟨L', ?_, fun r j hr => by rw [e2 r j (by omega), jup_nj _ _ (by omega)], fun j a b => ?_⟩
    · rw [jfx_s, X7_copy_F1, if_neg (nI_ge (by omega) (by omega)), if_pos (jin_N (by omega) (by omega)), forty, nI_add, if_pos (jin_N (by omega) (by omega)), jlet_d, rMM.2.2.2.2.1, rMM.2.2.2.2.2.1, cl_N (by omega), cl_N (by omega), show nI u + (1 : Int32) = nI (u + 1) from nI_1 u]
      exact e1
    · by_cases e : j = u
      · subst e; rw [e2 _ _ (by omega), jup_q, ju1_eq]
      · rw [e3 j (by omega) b, jup_ne _ _ (by omega)]
section SHS
variable {B cnt mode T : Nat} {S : Nat → Nat} {I : jI} {L : jL}
theorem t_copy (h : GG B cnt mode T S I L) (x y a b c : Int32) : Three B (X6_copy 1 x y a b c) (X7_copy 164 x y a b c) I L := by
  have hc4 := h.1.1.1
  have k1 : ((-54 : Int32) = -53) = False := by decide
  have k2 : ((-53 : Int32) = -53) = True := by decide
  have k3 : ((0 : Int32) = -53) = False := by decide
  have k4 : ((-54 : Int32) = 0) = False := by decide
  rcases shelf_c x with ⟨e1, m1⟩ | ⟨s, hs, rfl, e1, m1⟩
  · rcases shelf_c y with ⟨e4, m4⟩ | ⟨t, ht, rfl, e4, m4⟩ <;>
    exact Three.ref h 0 (by omega) (-52) rx0 (by unfold X6_copy; rw [e1, ob_some, e4, ob_some, if_pos rfl]) (fun J _ => by unfold X7_copy; rw [m1, ob_some, if_pos rfl])
  have hn0 : (148 + 2 * s = 0) = False := eq_false (by omega)
  rcases shelf_c y with ⟨e4, m4⟩ | ⟨t, ht, rfl, e4, m4⟩
  · exact Three.ref h 0 (by omega) (-52) rx0 (by unfold X6_copy; rw [e1, ob_some, e4, ob_some, if_neg (by omega), if_pos rfl]) (fun J _ => by unfold X7_copy; rw [m1, ob_some, if_neg (by decide), m4, ob_some, if_pos rfl])
  have hn1 : (148 + 2 * t = 0) = False := eq_false (by omega)
  have ref2 : X6_copy 1 (nI s) (nI t) a b c I L = jb2 (X6_refuse 1 (-54) I) (fun y J => some (y, J, L)) → (∀ J : jI, (∀ r, r ≠ 146 → J r = I r) → X7_copy 164 (nI s) (nI t) a b c J L = jb2 (X7_refuses 164 (-54) J) (fun y J' => some (y, J', L))) → Three B (X6_copy 1 (nI s) (nI t) a b c) (X7_copy 164 (nI s) (nI t) a b c) I L := fun z1 z2 => Three.ref h 2 (by omega) (-54) rx2 z1 z2
  have ref1 : X6_copy 1 (nI s) (nI t) a b c I L = jb2 (X6_refuse 1 (-53) I) (fun y J => some (y, J, L)) → (∀ J : jI, (∀ r, r ≠ 146 → J r = I r) → X7_copy 164 (nI s) (nI t) a b c J L = jb2 (X7_refuses 164 (-53) J) (fun y J' => some (y, J', L))) → Three B (X6_copy 1 (nI s) (nI t) a b c) (X7_copy 164 (nI s) (nI t) a b c) I L := fun z1 z2 => Three.ref h 1 (by omega) (-53) rx1 z1 z2
  rcases sh_c hs (h.2.1 s hs) hc4 with ⟨r1, u1, -, am1, -⟩ | ⟨l, -, r1, u1, -, am1, -⟩ | ⟨k, n, hk, hn, r1, u1, -, am1, sz1, so1, hh1, hz1, hel1⟩ <;>
  rcases sh_c ht (h.2.1 t ht) hc4 with ⟨r2, u2, -, am2, -⟩ | ⟨l', -, r2, u2, -, am2, -⟩ | ⟨k', n', hk', hn', r2, u2, -, am2, sz2, so2, hh2, hz2, hel2⟩
  · refine ref2 (by simp only [X6_copy, e1, e4, ob_some, jlet_d, r1, u1, r2, u2, hn0, hn1, if_true, if_false, i10, i00]) (fun J hJ => by simp only [X7_copy, m1, m4, ob_some, jlet_d, am1 J (hJ _ (by omega)), am2 J (hJ _ (by omega)), k1, k2, k3, k4, if_true, if_false, i10, i00])
  · refine ref1 (by simp only [X6_copy, e1, e4, ob_some, jlet_d, r1, u1, r2, u2, hn0, hn1, if_true, if_false, i10, i00]) (fun J hJ => by simp only [X7_copy, m1, m4, ob_some, jlet_d, am1 J (hJ _ (by omega)), am2 J (hJ _ (by omega)), k1, k2, k3, k4, if_true, if_false, i10, i00])
  · refine ref2 (by simp only [X6_copy, e1, e4, ob_some, jlet_d, r1, u1, r2, u2, hn0, hn1, if_true, if_false, i10, i00]) (fun J hJ => by simp only [X7_copy, m1, m4, ob_some, jlet_d, am1 J (hJ _ (by omega)), am2 J (hJ _ (by omega)), k1, k2, k3, k4, if_true, if_false, i10, i00])
  · refine ref1 (by simp only [X6_copy, e1, e4, ob_some, jlet_d, r1, u1, r2, u2, hn0, hn1, if_true, if_false, i10, i00]) (fun J hJ => by simp only [X7_copy, m1, m4, ob_some, jlet_d, am1 J (hJ _ (by omega)), am2 J (hJ _ (by omega)), k1, k2, k3, k4, if_true, if_false, i10, i00])
  · refine ref1 (by simp only [X6_copy, e1, e4, ob_some, jlet_d, r1, u1, r2, u2, hn0, hn1, if_true, if_false, i10, i00]) (fun J hJ => by simp only [X7_copy, m1, m4, ob_some, jlet_d, am1 J (hJ _ (by omega)), am2 J (hJ _ (by omega)), k1, k2, k3, k4, if_true, if_false, i10, i00])
  · refine ref1 (by simp only [X6_copy, e1, e4, ob_some, jlet_d, r1, u1, r2, u2, hn0, hn1, if_true, if_false, i10, i00]) (fun J hJ => by simp only [X7_copy, m1, m4, ob_some, jlet_d, am1 J (hJ _ (by omega)), am2 J (hJ _ (by omega)), k1, k2, k3, k4, if_true, if_false, i10, i00])
  · refine ref2 (by simp only [X6_copy, e1, e4, ob_some, jlet_d, r1, u1, r2, u2, hn0, hn1, if_true, if_false, i10, i00]) (fun J hJ => by simp only [X7_copy, m1, m4, ob_some, jlet_d, am1 J (hJ _ (by omega)), am2 J (hJ _ (by omega)), k1, k2, k3, k4, if_true, if_false, i10, i00])
  · refine ref1 (by simp only [X6_copy, e1, e4, ob_some, jlet_d, r1, u1, r2, u2, hn0, hn1, if_true, if_false, i10, i00]) (fun J hJ => by simp only [X7_copy, m1, m4, ob_some, jlet_d, am1 J (hJ _ (by omega)), am2 J (hJ _ (by omega)), k1, k2, k3, k4, if_true, if_false, i10, i00])
  · have js : jin (nI s) 8 := jin_N hs (by omega)
    have jt : jin (nI t) 8 := jin_N ht (by omega)
    by_cases hkk : k = k'
    · subst hkk
      have hkI : (I (148 + 2 * s) 0 = I (148 + 2 * t) 0) = True := eq_true (by rw [so1, so2])
      have hkM : ∀ J : jI, J 170 = I 170 → (J 170 s = J 170 t) = True := fun J hJ => eq_true (by rw [hJ, hh1, hh2])
      have ref0 : ¬ (0 ≤ a.toInt ∧ 0 ≤ b.toInt ∧ 0 ≤ c.toInt ∧ a.toInt + c.toInt ≤ n ∧ b.toInt + c.toInt ≤ n') → Three B (X6_copy 1 (nI s) (nI t) a b c) (X7_copy 164 (nI s) (nI t) a b c) I L := fun hno => by
        refine Three.ref h 0 (by omega) (-52) rx0 ?_ (fun J hJ => ?_)
        · by_cases q1 : 0 ≤ a.toInt ∧ 0 ≤ c.toInt ∧ a.toInt + c.toInt ≤ n
          · have q2 : ¬ (0 ≤ b.toInt ∧ 0 ≤ c.toInt ∧ b.toInt + c.toInt ≤ n') := by omega
            simp only [X6_copy, e1, e4, ob_some, jlet_d, r1, u1, r2, u2, hn0, hn1, if_true, if_false, i10, i00, hkI, hasEls hn sz1, hasEls hn' sz2, if_pos q1, if_neg q2]
          · simp only [X6_copy, e1, e4, ob_some, jlet_d, r1, u1, r2, u2, hn0, hn1, if_true, if_false, i10, i00, hkI, hasEls hn sz1, if_neg q1]
        · unfold X7_copy
          rw [m1, ob_some, if_neg (by decide), m4, ob_some, if_neg (by decide), am1 J (hJ _ (by omega)), ob_some, am2 J (hJ _ (by omega)), ob_some, if_neg (by decide), if_neg (by decide), jlet_d, if_pos rfl, if_pos rfl, if_pos js, if_pos jt, rMM.2.2.1, cl_N (by omega), cl_N (by omega), if_pos (by rw [hJ 170 (by omega), hh1, hh2]), if_pos rfl, if_pos rfl]
          by_cases z1 : c < 0
          · rw [if_pos z1]
          · rw [if_neg z1]
            by_cases z2 : a < 0
            · rw [if_pos z2]
            · rw [if_neg z2]
              by_cases z3 : b < 0
              · rw [if_pos z3]
              · rw [if_neg z3, if_pos js, rMM.2.2.2.1, hJ 171 (by omega), hz1, hz2]
                rw [lt0] at z1 z2 z3
                by_cases z4 : nI n - a < c
                · rw [if_pos z4]
                · have z4' : ¬ (nI n - a).toInt < c.toInt := fun z => z4 (Int32.lt_iff_toInt_lt.mpr z)
                  rw [sub_int hn a (by omega)] at z4'
                  have z5 : ¬ c ≤ nI n' - b := fun z => by
                    have := Int32.le_iff_toInt_le.mp z
                    rw [sub_int hn' b (by omega)] at this
                    omega
                  rw [if_neg z4, if_pos jt, if_neg z5]
      by_cases hok : 0 ≤ a.toInt ∧ 0 ≤ b.toInt ∧ 0 ≤ c.toInt ∧ a.toInt + c.toInt ≤ n ∧ b.toInt + c.toInt ≤ n'
      · obtain ⟨o1, o2, o3, o4, o5⟩ := hok
        obtain ⟨i, hi, rfl, hia⟩ := nat_of a o1
        obtain ⟨j, hj, rfl, hjb⟩ := nat_of b o2
        obtain ⟨N, hN, rfl, hNc⟩ := nat_of c o3
        have p1 : i + N ≤ n := by omega
        have p2 : j + N ≤ n' := by omega
        obtain ⟨L1, hL1⟩ : ∃ L1, L1 = jrow L (149 + 2 * t) (va_cpy (L (149 + 2 * s)) (L (149 + 2 * t)) i j N) := ⟨_, rfl⟩
        obtain ⟨L2, c1, c2, c3, -⟩ := copM1 hs (show i + N ≤ 40 by omega) N 1000 0 L1 (by omega) (by omega)
        obtain ⟨L3, d1, d2, d3⟩ := copM2 ht (show j + N ≤ 40 by omega) I N 1000 0 L2 (by omega) (by omega)
        refine ⟨nI N, I, L1, I, L3, ?_, ?_, cnt, mode, T, S, GG.mono (h.one (s := t) (fun r _ _ _ => rfl) ht (fun t _ => ⟨rfl, rfl⟩) (fun t' w ht' hts hw => ⟨?_, ?_⟩) (Or.inr (Or.inr ⟨k, n', hk, hn', so2, ?_, sz2, hh2, hz2, fun w hw => ?_⟩))) (by omega)⟩
        · simp only [X6_copy, e1, e4, ob_some, jlet_d, r1, u1, r2, u2, hn0, hn1, if_true, if_false, i10, i00, hkI, hasEls hn sz1, hasEls hn' sz2, if_pos (⟨o1, o3, o4⟩ : 0 ≤ (nI i).toInt ∧ 0 ≤ (nI N).toInt ∧ (nI i).toInt + (nI N).toInt ≤ n), if_pos (⟨o2, o3, o5⟩ : 0 ≤ (nI j).toInt ∧ 0 ≤ (nI N).toInt ∧ (nI j).toInt + (nI N).toInt ≤ n')]
          rw [if_pos ⟨nI_pos hi, nI_pos hj, nI_pos hN, by rw [cl_N hi, cl_N hN]; omega, by rw [cl_N hj, cl_N hN]; omega⟩, (rS s hs).2, (rS t ht).2, cl_N hi, cl_N hj, cl_N hN, ← hL1]
        · unfold X7_copy
          rw [m1, ob_some, if_neg (by decide), m4, ob_some, if_neg (by decide), am1 I rfl, ob_some, am2 I rfl, ob_some, if_neg (by decide), if_neg (by decide), jlet_d, if_pos rfl, if_pos rfl, if_pos js, if_pos jt, rMM.2.2.1, cl_N (show s < 2147483648 by omega), cl_N (show t < 2147483648 by omega), if_pos (by rw [hh1, hh2]), if_pos rfl, if_pos rfl, if_neg (nI_pos hN), if_neg (nI_pos hi), if_neg (nI_pos hj), if_pos js, rMM.2.2.2.1, hz1, hz2, if_neg (fun z => by have := Int32.lt_iff_toInt_lt.mp z; rw [sub_int hn _ o1] at this; omega), if_pos jt, if_pos (by rw [Int32.le_iff_toInt_le, sub_int hn' _ o2]; omega), jlet_d]
          exact (c1 _).trans d1
        · rw [d2 _ _ (by omega), c2 _ (by omega), hL1, jrow_ne _ _ (by omega)]
        · rw [d2 _ _ (by omega), c2 _ (by omega), hL1, jrow_ne _ _ (by omega)]
        · rcases h.2.1 t ht with ⟨a1, -⟩ | ⟨l, -, -, a1, -⟩ | ⟨_, _, -, -, -, a4, -⟩
          · rw [so2] at a1; exact absurd a1 (m1_ne (by omega))
          · rw [so2] at a1; exact absurd a1 (m1_ne (by omega))
          · exact a4
        · rw [d2 _ _ (by omega), c2 _ (by omega), hL1, jrow_self]
          unfold va_cpy
          by_cases hw2 : j ≤ w ∧ w < j + N
          · obtain ⟨w', rfl⟩ : ∃ w', w = j + w' := ⟨w - j, by omega⟩
            rw [if_pos hw2, show 40 * t + (j + w') = 40 * t + j + w' by omega, d3 w' (by omega) (by omega), c3 w' (by omega) (by omega), hL1, jrow_ne _ _ (by omega), show j + w' - j = w' by omega, hel1 _ (by omega), Nat.add_assoc]
          · rw [if_neg hw2, d2 _ _ (by omega), c2 _ (by omega), hL1, jrow_ne _ _ (by omega), hel2 w hw]
      · exact ref0 hok
    · have hkI : (I (148 + 2 * s) 0 = I (148 + 2 * t) 0) = False := eq_false (by rw [so1, so2, nI_eq (by omega) (by omega)]; exact hkk)
      refine ref1 (by simp only [X6_copy, e1, e4, ob_some, jlet_d, r1, u1, r2, u2, hn0, hn1, if_true, if_false, i10, i00, hkI]) (fun J hJ => ?_)
      unfold X7_copy
      rw [m1, ob_some, if_neg (by decide), m4, ob_some, if_neg (by decide), am1 J (hJ _ (by omega)), ob_some, am2 J (hJ _ (by omega)), ob_some, if_neg (by decide), if_neg (by decide), jlet_d, if_pos rfl, if_pos rfl, if_pos js, if_pos jt, rMM.2.2.1, cl_N (by omega), cl_N (by omega), if_neg (by rw [hJ 170 (by omega), hh1, hh2, nI_eq (by omega) (by omega)]; exact hkk)]
end SHS
