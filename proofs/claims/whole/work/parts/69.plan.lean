/-! READS IN THOUGHT: a trace of them; plan on both sides -/
def smN (f : Nat → Nat) : Nat → Nat
  | 0 => 0
  | n + 1 => smN f n + f n
theorem smN_s {f : Nat → Nat} {n : Nat} : smN f (n + 1) = smN f n + f n := rfl
theorem smN_le {f : Nat → Nat} {b : Nat} : ∀ {n : Nat}, (∀ i, i < n → f i ≤ b) → smN f n ≤ b * n
  | 0, _ => Nat.zero_le _
  | n + 1, h => by
    have := smN_le (f := f) (b := b) (n := n) (fun i hi => h i (by omega))
    have := h n (by omega)
    rw [smN_s, Nat.mul_succ]
    omega
def TRC (B cnt mode N : Nat) (S : Nat → Nat) (I : jI) (m : Mn) (pg : Nat → Nat) (St : Nat → jI) (ms : Nat → Mn) (cs fs : Nat → Nat) : Prop :=
  St 0 = I ∧ ms 0 = m ∧ (∀ i, i < N → cs i ≤ 1395 ∧ fs i ≤ 4 ∧ X4_access 48 (nI (pg i)) 0 0 (St i) = some (nI (cs i), St (i + 1)) ∧ St (i + 1) 48 16 = nI (fs i) ∧ ∀ J : jI, J 165 = ms i → ∃ y, X7_reads 164 (nI (pg i)) J = some (y, Nf J (nI (cs i)) (nI (fs i)) (ms (i + 1)))) ∧ (∀ i, i ≤ N → ∀ r, (r < 48 ∨ 94 ≤ r) → St i r = I r) ∧ ∃ T', ST (B + 64 * N) 48 cnt mode T' S (St N) (ms N)
theorem trace {B cnt mode T : Nat} {S : Nat → Nat} {I : jI} {m : Mn} (h : ST B 48 cnt mode T S I m) (pg : Nat → Nat) : ∀ N, (∀ i, i < N → pg i < 64) → B + 64 * N < 1073741824 → ∃ St ms cs fs, TRC B cnt mode N S I m pg St ms cs fs := by
  intro N
  induction N with
  | zero => exact fun _ _ => ⟨fun _ => I, fun _ => m, fun _ => 0, fun _ => 0, rfl, rfl, fun i hi => by omega, fun _ _ _ _ => rfl, T, h⟩
  | succ N ih =>
    intro hp hB
    obtain ⟨St, ms, cs, fs, t1, t2, t3, t4, T', t5⟩ := ih (fun i hi => hp i (by omega)) (by omega)
    obtain ⟨cost, h6, I', m', a0, a1, a2, -, a4, a5, a6, f, a7, a8⟩ := access_sim OB48 t5 (hp N (by omega)) (w := 0) (v := 0) (Or.inl rfl) (by omega)
    refine ⟨fun i => if i ≤ N then St i else I', fun i => if i ≤ N then ms i else m', fun i => if i < N then cs i else cost, fun i => if i < N then fs i else f, (if_pos (Nat.zero_le N)).trans t1, (if_pos (Nat.zero_le N)).trans t2, fun i hi => ?_, fun i hi r hr => ?_, T' + 1, ?_⟩
    · by_cases e : i < N
      · simp only [if_pos e, if_pos (show i ≤ N by omega), if_pos (show i + 1 ≤ N by omega)]
        exact t3 i e
      · have e2 : i = N := by omega
        subst e2
        simp only [if_neg e, if_pos (Nat.le_refl i), if_neg (show ¬ i + 1 ≤ i by omega)]
        exact ⟨a0, a7, a1, by rw [a6, a8], fun J hJ => ⟨_, by rw [← a8]; exact a2 rfl J hJ⟩⟩
    · by_cases e : i ≤ N
      · simp only [if_pos e]; exact t4 i e r hr
      · simp only [if_neg e]; rw [a5 r (by omega), t4 N (Nat.le_refl _) r hr]
    · simp only [if_neg (show ¬ N + 1 ≤ N by omega)]
      exact a4.mono (by omega)
theorem NfD {J : jI} {c h : Int32} {x : Mn} : Nf J c h x = jrow (jrow J 164 (ju1 (ju1 (J 164) 5 c) 6 h)) 165 x := rfl
def SAME (J J' : jI) : Prop := ∀ r k, r ≠ 165 → (r ≠ 164 ∨ k = 3 ∨ k = 8) → J' r k = J r k
theorem SAME.tr {J J' J'' : jI} (h : SAME J J') (h2 : SAME J' J'') : SAME J J'' := fun r k a b => (h2 r k a b).trans (h r k a b)
theorem SAME.ofNf {J : jI} {c h : Int32} {x : Mn} : SAME J (Nf J c h x) := fun r k a b => by
  by_cases e : r = 164
  · subst e; rw [Nf_164, ju1_ne _ _ (by omega), ju1_ne _ _ (by omega)]
  · rw [NfD]; rw [jrow_ne _ _ a, jrow_ne _ _ e]
theorem told_e {I : jI} {i : Nat} (hi : i < 40) : X6_toldAt 1 (nI i) I = some (I 147 i) := by
  unfold X6_toldAt
  rw [wi_y (nI i) 0 ((40 : Int32) - (1 : Int32)) rfl (by omega) (by rw [show (0 : Int32).toInt = 0 from rfl]; omega) (by rw [show ((40 : Int32) - (1 : Int32)).toInt = 39 from by decide]; omega), ob_some, if_neg (by decide), if_pos (jin_N hi (by omega)), rT.2.2.2.1, cl_N (by omega)]
section TH
variable {B cnt mode T N s : Nat} {S : Nat → Nat} {I : jI} {m : Mn} {L : jL} {pg : Nat → Nat} {St : Nat → jI} {ms : Nat → Mn} {cs fs : Nat → Nat}
def nr (fs : Nat → Nat) (w i : Nat) : Nat := if fs i = w then 1 else 0
theorem nr_e {f w : Nat} (hf : f ≤ 4) (hw : w ≤ 4) {x : Int32} (hx : x = nI w) : (if nI f = x then (1 : Int32) else 0) = nI (if f = w then 1 else 0) := by
  by_cases e : f = w
  · rw [if_pos (by rw [hx, e]), if_pos e]; rfl
  · rw [if_neg (by rw [hx, nI_eq (by omega) (by omega)]; exact e), if_neg e]; rfl
theorem plan_C (h : TRC B cnt mode N S I m pg St ms cs fs) (ht : TOLD I L s 1 N pg) (hN : N ≤ 40) (k13 : Int32 → Int32 → Int32 → jI → Option (Int32 × jI)) : ∀ d n i, i + d = N → d < n → jfx (X6_plan_F1 1 (nI N) k13) (fun _ _ _ _ _ => none) n (nI (smN cs i)) (nI (smN (nr fs 1) i)) (nI (smN (nr fs 0) i)) (nI i) (St i) = k13 (nI (smN cs N)) (nI (smN (nr fs 1) N)) (nI (smN (nr fs 0) N)) (St N) := by
  obtain ⟨-, -, t3, t4, -⟩ := h
  intro d
  induction d with
  | zero =>
    intro n i h1 h2
    obtain ⟨n, rfl⟩ : ∃ q, n = q + 1 := ⟨n - 1, by omega⟩
    rw [jfx_s, X6_plan_F1, if_pos (nI_le (by omega) (by omega)), show i = N by omega]
  | succ d ih =>
    intro n i h1 h2
    obtain ⟨n, rfl⟩ : ∃ q, n = q + 1 := ⟨n - 1, by omega⟩
    obtain ⟨a0, a1, a2, a3, -⟩ := t3 i (by omega)
    have hi := ih n (i + 1) (by omega) (by omega)
    rw [smN_s, smN_s, smN_s] at hi
    rw [jfx_s, X6_plan_F1, if_neg (nI_ge (by omega) (by omega)), told_e (by omega), ob_some, t4 i (by omega) 147 (by omega), (ht i (by omega)).2.1, rR.2.1, a2, jb2_some, jlet_d, jlet_d, jlet_d, jlet_d, jlet_d, a3, nr_e a1 (w := 1) (x := (1 : Int32)) (by omega) rfl, nr_e a1 (w := 0) (x := (0 : Int32)) (by omega) rfl, nI_add, nI_add, nI_add, show nI i + (1 : Int32) = nI (i + 1) from nI_1 _]
    exact hi
theorem cost_C (h : TRC B cnt mode N S I m pg St ms cs fs) (ht : TOLD I L s 1 N pg) (hN : N ≤ 40) : X6_costInThought 1 (nI N) I = some (nI (smN cs N), St N) := by
  obtain ⟨t1, -, t3, t4, -⟩ := h
  have key : ∀ d n i, i + d = N → d < n → jfx (X6_costInThought_F1 1 (nI N)) (fun _ _ _ => none) n (nI (smN cs i)) (nI i) (St i) = some (nI (smN cs N), St N) := by
    intro d
    induction d with
    | zero =>
      intro n i h1 h2
      obtain ⟨n, rfl⟩ : ∃ q, n = q + 1 := ⟨n - 1, by omega⟩
      rw [jfx_s, X6_costInThought_F1, if_pos (nI_le (by omega) (by omega)), show i = N by omega]
    | succ d ih =>
      intro n i h1 h2
      obtain ⟨n, rfl⟩ : ∃ q, n = q + 1 := ⟨n - 1, by omega⟩
      obtain ⟨a0, a1, a2, a3, -⟩ := t3 i (by omega)
      have hi := ih n (i + 1) (by omega) (by omega)
      rw [smN_s] at hi
      rw [jfx_s, X6_costInThought_F1, if_neg (nI_ge (by omega) (by omega)), told_e (by omega), ob_some, t4 i (by omega) 147 (by omega), (ht i (by omega)).2.1, rR.2.1, a2, jb2_some, jlet_d, nI_add, show nI i + (1 : Int32) = nI (i + 1) from nI_1 _]
      exact hi
  rw [← t1]
  exact key N 1000 0 (by omega) (by omega)
theorem reads_M (h : TRC B cnt mode N S I m pg St ms cs fs) (ht : TOLD I L s 1 N pg) (hN : N ≤ 40) (hs : s < 8) : ∀ d n i (J : jI), J 165 = ms i → J 164 16 = nI (smN cs i) → J 164 17 = nI (smN (nr fs 1) i) → J 164 18 = nI (smN (nr fs 0) i) → i + d = N → d < n →
    ∃ J', jfx (X7_readsRow_F1 164 (nI s) (nI N) L) (fun _ _ => none) n (nI i) J = some J' ∧ J' 165 = ms N ∧ J' 164 16 = nI (smN cs N) ∧ J' 164 17 = nI (smN (nr fs 1) N) ∧ J' 164 18 = nI (smN (nr fs 0) N) ∧ SAME J J' := by
  obtain ⟨-, -, t3, t4, -⟩ := h
  intro d
  induction d with
  | zero =>
    intro n i J j1 j2 j3 j4 h1 h2
    obtain ⟨n, rfl⟩ : ∃ q, n = q + 1 := ⟨n - 1, by omega⟩
    have e : i = N := by omega
    subst e
    refine ⟨J, ?_, j1, j2, j3, j4, fun _ _ _ _ => rfl⟩
    rw [jfx_s, X7_readsRow_F1, if_pos (nI_le (by omega) (by omega))]
  | succ d ih =>
    intro n i J j1 j2 j3 j4 h1 h2
    obtain ⟨n, rfl⟩ : ∃ q, n = q + 1 := ⟨n - 1, by omega⟩
    obtain ⟨a0, a1, a2, a3, a4⟩ := t3 i (by omega)
    obtain ⟨y, a5⟩ := a4 J j1
    obtain ⟨J1, hJ1⟩ : ∃ J1, J1 = jup (jup (jup (Nf J (nI (cs i)) (nI (fs i)) (ms (i + 1))) 164 16 (nI (smN cs (i + 1)))) 164 17 (nI (smN (nr fs 1) (i + 1)))) 164 18 (nI (smN (nr fs 0) (i + 1))) := ⟨_, rfl⟩
    have e1 : ∀ r, r ≠ 164 → J1 r = Nf J (nI (cs i)) (nI (fs i)) (ms (i + 1)) r := fun r hr => by rw [hJ1, jup_ne _ _ hr, jup_ne _ _ hr, jup_ne _ _ hr]
    have e2 : ∀ k, k ≠ 16 → k ≠ 17 → k ≠ 18 → J1 164 k = Nf J (nI (cs i)) (nI (fs i)) (ms (i + 1)) 164 k := fun k x y z => by rw [hJ1, jup_nj _ _ (by omega), jup_nj _ _ (by omega), jup_nj _ _ (by omega)]
    obtain ⟨J', b1, b2, b3, b4, b5, b6⟩ := ih n (i + 1) J1 (by rw [e1 _ (by omega), Nf_165]) (by rw [hJ1]; simp (disch := omega) only [jup_q, ju1_eq, ju1_ne]) (by rw [hJ1]; simp (disch := omega) only [jup_q, ju1_eq, ju1_ne]) (by rw [hJ1]; simp (disch := omega) only [jup_q, ju1_eq, ju1_ne]) (by omega) (by omega)
    refine ⟨J', ?_, b2, b3, b4, b5, SAME.tr (SAME.tr (SAME.ofNf (c := nI (cs i)) (h := nI (fs i)) (x := ms (i + 1))) (fun r k x y => ?_)) b6⟩
    · have n16 : ∀ k, k = 16 ∨ k = 17 ∨ k = 18 → Nf J (nI (cs i)) (nI (fs i)) (ms (i + 1)) 164 k = J 164 k := fun k hk => by rw [Nf_164, ju1_ne _ _ (by omega), ju1_ne _ _ (by omega)]
      have ht2 := (ht i (by omega)).2.2.1
      rw [Nat.one_mul] at ht2
      rw [jfx_s, X7_readsRow_F1, if_neg (nI_ge (by omega) (by omega)), forty, if_pos (jin_N (by omega) (by omega)), rMM.2.2.2.2.1, cl_N (by omega), ht2, a5, jb2_some, jlet_d, Nf_5, n16 16 (by omega), j2, nI_add, ← smN_s (f := cs)]
      rw [jlet_d, jup_nj _ _ (show 164 ≠ 164 ∨ 6 ≠ 16 by omega), Nf_6, nr_e a1 (w := 1) (x := (1 : Int32)) (by omega) rfl, jlet_d, jup_nj _ _ (show 164 ≠ 164 ∨ 17 ≠ 16 by omega), n16 17 (by omega), j3, nI_add]
      rw [show smN (nr fs 1) i + (if fs i = 1 then 1 else 0) = smN (nr fs 1) (i + 1) from rfl, jlet_d, jup_nj _ _ (show 164 ≠ 164 ∨ 6 ≠ 17 by omega), jup_nj _ _ (show 164 ≠ 164 ∨ 6 ≠ 16 by omega), Nf_6, nr_e a1 (w := 0) (x := (0 : Int32)) (by omega) rfl, jlet_d, jup_nj _ _ (show 164 ≠ 164 ∨ 18 ≠ 17 by omega), jup_nj _ _ (show 164 ≠ 164 ∨ 18 ≠ 16 by omega), n16 18 (by omega), j4, nI_add]
      rw [show smN (nr fs 0) i + (if fs i = 0 then 1 else 0) = smN (nr fs 0) (i + 1) from rfl, ← hJ1, show nI i + (1 : Int32) = nI (i + 1) from nI_1 _]
      exact b1
    · by_cases e : r = 164
      · subst e; exact e2 k (by omega) (by omega) (by omega)
      · rw [e1 r e]
/-- the whole of the model's reads of a row -/
theorem readsRow_M (h : TRC B cnt mode N S I m pg St ms cs fs) (ht : TOLD I L s 1 N pg) (hN : N ≤ 40) (hs : s < 8) (J : jI) (hJ : J 165 = m) : ∃ J', X7_readsRow 164 (nI s) (nI N) J L = some J' ∧ J' 164 16 = nI (smN cs N) ∧ J' 164 17 = nI (smN (nr fs 1) N) ∧ J' 164 18 = nI (smN (nr fs 0) N) ∧ SAME J J' := by
  obtain ⟨J1, hJ1⟩ : ∃ J1, J1 = jup (jup (jup J 164 16 0) 164 17 0) 164 18 0 := ⟨_, rfl⟩
  have e1 : ∀ r, r ≠ 164 → J1 r = J r := fun r hr => by rw [hJ1, jup_ne _ _ hr, jup_ne _ _ hr, jup_ne _ _ hr]
  have e2 : ∀ k, k ≠ 16 → k ≠ 17 → k ≠ 18 → J1 164 k = J 164 k := fun k x y z => by rw [hJ1, jup_nj _ _ (by omega), jup_nj _ _ (by omega), jup_nj _ _ (by omega)]
  obtain ⟨J', b1, b2, b3, b4, b5, b6⟩ := reads_M h ht hN hs N 1000 0 J1 (by rw [e1 _ (by omega), hJ, h.2.1]) (by rw [hJ1]; simp (disch := omega) only [jup_q, ju1_eq, ju1_ne]; rfl) (by rw [hJ1]; simp (disch := omega) only [jup_q, ju1_eq, ju1_ne]; rfl) (by rw [hJ1]; simp (disch := omega) only [jup_q, ju1_eq, ju1_ne]; rfl) (by omega) (by omega)
  refine ⟨J', ?_, b3, b4, b5, SAME.tr (fun r k x y => ?_) b6⟩
  · unfold X7_readsRow
    rw [jlet_d, jlet_d, jlet_d, ← hJ1]
    exact b1
  · by_cases e : r = 164
    · subst e; exact e2 k (by omega) (by omega) (by omega)
    · rw [e1 r e]
/-- the model's row of now is poured aside, and back -/
theorem back_M {J J1 J2 : jI} {x y : Mn} (hx : ∀ j, j < 784 → x j = J 165 j) (h1 : J1 = jrow J 167 x) (h2 : SAME J1 J2) (hy : ∀ j, j < 784 → y j = J2 167 j) : UN J (jrow J2 165 y) := by
  refine ⟨fun r k hr => ?_, fun r k a b => ?_, fun i hi => ?_⟩
  · rw [jrow_ne _ _ (by omega), h2 r k (by omega) (by omega), h1, jrow_ne _ _ (by omega)]
  · rw [jrow_ne _ _ (by omega), h2 r k (by omega) (by omega), h1, jrow_ne _ _ (by omega)]
  · rw [jrow_self, hy i hi, h2 167 i (by omega) (by omega), h1, jrow_self, hx i hi]
theorem UN.of48 {I I' : jI} (h : ∀ q, (q < 48 ∨ 94 ≤ q) → I' q = I q) : UN I I' := ⟨fun r k hr => by rw [h r (by omega)], fun r k a b => by rw [h r (by omega)], fun i _ => by rw [h 165 (by omega)]⟩
theorem t_plan (h : GG B cnt mode T S I L) (hB : B + 32768 < 1073741824) (x y z : Int32) : Two B L (fun I => X6_plan 1 x y z I L) (fun I => X7_plan 164 x y z I L) I := by
  have fin : ∀ f, (f = 0 ∨ f = 1) → X6_isWithin z 0 2 = some f → Two B L (fun I => X6_plan 1 x y z I L) (fun I => X7_plan 164 x y z I L) I := by
    intro f hf hz
    rcases hear_c h x y f hf with ⟨r, I1, I2, r0, c1, -, c2, c3, c4, c5⟩ | ⟨rfl, s, zz, N, pg, I9, hs, rfl, rfl, hN, hz40, c1, c2, ht, hG, cM⟩
    · refine ⟨r, I1, I2, ?_, ?_, cnt, mode, T, S, c3.mono (by omega)⟩
      · show X6_plan 1 x y z I L = _
        unfold X6_plan
        rw [hz, ob_some, c1, jb2_some, if_neg r0]
      · show X7_plan 164 x y z I1 L = _
        unfold X7_plan
        rw [within_e z 0 2 0 2 rfl rfl, hz, ob_some, jlet_d]
        rcases hf with rfl | rfl
        · rw [if_pos rfl, ← c4 rfl]
          dsimp only
          rw [if_neg r0, c2, jb2_some]
        · rw [if_neg (by decide), c5 rfl, ob_some]
          dsimp only
          rw [if_neg r0, c2, jb2_some]
    · have hz2 : ∃ w, w ≤ 2 ∧ z = nI w := by
        rcases wi_c z 0 2 0 2 rfl rfl with q | ⟨-, w, -, hw, -, e⟩
        · rw [hz] at q; exact absurd (Option.some.inj q) (by decide)
        · exact ⟨w, by omega, e⟩
      obtain ⟨w, hw, rfl⟩ := hz2
      have e9 : ∀ q, q ≠ 147 → I9 q = I q := c2
      obtain ⟨I3, t1, t2, t3⟩ := takeS OB48 OB2 (by omega) hG.1
      have ht3 : TOLD I3 L s 1 N pg := fun j hj => by rw [t3 147 (by omega)]; exact ht j hj
      obtain ⟨St, ms, cs, fs, hT⟩ := trace t2 pg N (fun i hi => (ht i hi).1) (by omega)
      obtain ⟨p1, p2, p3, p4, -⟩ := id hT
      have hSt : ∀ r, (r < 48 ∨ 94 ≤ r) → St N r = I9 r := fun r hr => by rw [p4 N (Nat.le_refl _) r hr, t3 r (by omega)]
      obtain ⟨xx, q1, q2, q3⟩ := pours_e (a := 165) (b := 167) (by omega) (St N)
      obtain ⟨J1, hJ1⟩ : ∃ J1, J1 = jrow (St N) 167 xx := ⟨_, rfl⟩
      obtain ⟨J2, r1, r2, r3, r4, r5⟩ := readsRow_M hT ht3 (by omega) hs J1 (by rw [hJ1, jrow_ne _ _ (by omega), hSt 165 (by omega)])
      obtain ⟨yy, u1, u2, u3⟩ := pours_e (a := 167) (b := 165) (by omega) J2
      have hU : UN (St N) (jrow J2 165 yy) := back_M q2 hJ1 r5 u2
      have hG2 : GG B cnt mode T S (jrow J2 165 yy) L := (hG.un (UN.of48 hSt)).un hU
      have e164 : ∀ k, jrow J2 165 yy 164 k = J2 164 k := fun k => by rw [jrow_ne _ _ (by omega)]
      have cC : X6_plan 1 (nI s) (nI N) (nI w) I L = (if nI w = 0 then some (nI (smN cs N), St N) else (if nI w = (1 : Int32) then some (nI (smN (nr fs 1) N), St N) else some (nI (smN (nr fs 0) N), St N))) := by
        unfold X6_plan
        rw [hz, ob_some, c1, jb2_some, if_pos rfl, rR.1, rR.2.1, t1, ob_some, jlet_d, ← p1]
        exact plan_C hT ht3 (by omega) _ N 1000 0 (by omega) (by omega)
      have cM2 : X7_plan 164 (nI s) (nI N) (nI w) (St N) L = (if nI w = 0 then some (nI (smN cs N), jrow J2 165 yy) else (if nI w = (1 : Int32) then some (nI (smN (nr fs 1) N), jrow J2 165 yy) else some (nI (smN (nr fs 0) N), jrow J2 165 yy))) := by
        unfold X7_plan
        rw [within_e _ 0 2 0 2 rfl rfl, hz, ob_some, jlet_d, if_neg (by decide), cM (St N) (by rw [hSt _ (by omega), e9 _ (by omega)]) (by rw [hSt _ (by omega), e9 _ (by omega)]), ob_some]
        dsimp only
        rw [if_pos rfl, rM0, rM2, q1, ob_some, ← hJ1, r1, ob_some, u1, ob_some, e164, e164, e164, r2, r3, r4]
      have c40 : ∃ a, (if nI w = 0 then some (nI (smN cs N), St N) else (if nI w = (1 : Int32) then some (nI (smN (nr fs 1) N), St N) else some (nI (smN (nr fs 0) N), St N))) = some (a, St N) ∧ (if nI w = 0 then some (nI (smN cs N), jrow J2 165 yy) else (if nI w = (1 : Int32) then some (nI (smN (nr fs 1) N), jrow J2 165 yy) else some (nI (smN (nr fs 0) N), jrow J2 165 yy))) = some (a, jrow J2 165 yy) := by
        by_cases w0 : nI w = 0
        · exact ⟨_, by rw [if_pos w0], by rw [if_pos w0]⟩
        · by_cases w1 : nI w = (1 : Int32)
          · exact ⟨_, by rw [if_neg w0, if_pos w1], by rw [if_neg w0, if_pos w1]⟩
          · exact ⟨_, by rw [if_neg w0, if_neg w1], by rw [if_neg w0, if_neg w1]⟩
      obtain ⟨a, b1, b2⟩ := c40
      exact ⟨a, St N, jrow J2 165 yy, cC.trans b1, cM2.trans b2, cnt, mode, T, S, hG2.mono (by omega)⟩
  rcases wi_c z 0 2 0 2 rfl rfl with hz | ⟨hz, -⟩
  · exact fin 0 (Or.inl rfl) hz
  · exact fin 1 (Or.inr rfl) hz
end TH
