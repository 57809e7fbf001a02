/-! AN ACCESS as a whole -/
theorem CORE.congr {B o cnt mode T : Nat} {S : Nat → Nat} {I I' : jI} {m m' : Mn} (h : CORE B o cnt mode T S I m) (h2 : I' (o + 2) = I (o + 2)) (hl : ∀ r, o + 10 ≤ r → r < o + 46 → I' r = I r) (h3 : I' (o + 3) 0 = I (o + 3) 0) (hf : ∀ f, (f = 1 ∨ f = 4 ∨ f = 7 ∨ f = 11 ∨ f = 13) → I' o f = I o f) (hm : ∀ i, (i < 64 ∨ (128 ≤ i ∧ i < 688) ∨ i = 688 ∨ i = 689 ∨ i = 693 ∨ i = 697 ∨ i = 699 ∨ i = 700) → m' i = m i) : CORE B o cnt mode T S I' m' := by
  obtain ⟨g1, g2, g3, g4, g5⟩ := h
  exact ⟨g1, g2.keep2 (fun j h1 => hf j (by omega)) (fun i h1 => hm i (by omega)), fun j hj => (g3 j hj).congr (fun r a b => hl r (by omega) (by omega)) (fun w a b => hm w (by omega)), g4.congr h2 (hf _ (by omega)) h3 (hf _ (by omega)) (fun i hi => hm i (by omega)), fun e => (g5 e).of g1.1 (fun j kk _ h1 h3 => Or.inl (hm _ (by omega)))⟩
def runK (o : Nat) (p0 : Int32) (k16 : Int32 → jI → Option (Int32 × jI)) (I12 : jI) : Option (Int32 × jI) :=
  if (I12 o 16) = 0 then jb2 (X4_runOn o p0 I12) (fun y38 I39 => k16 y38 I39) else k16 (-1 : Int32) I12
theorem min63 {a : Nat} (ha : a < 1000) : jmin (nI a) 63 = nI (min a 63) := by
  unfold jmin
  show (if nI 63 < nI a then nI 63 else nI a) = _
  by_cases c : 63 < a
  · rw [if_pos (nI_lt c (by omega)), show min a 63 = 63 by omega]
  · rw [if_neg (nI_nlt (by omega) (by omega)), show min a 63 = a by omega]
theorem m1_lt {a : Nat} (ha : a < 2147483648) : (-1 : Int32) < nI a := by
  rw [Int32.lt_iff_toInt_lt, nI_toInt ha]
  show (-1 : Int) < _
  omega
theorem F1_no {o p : Nat} (hp : p < 64) {I : jI} (k : jI → Option (Int32 × jI)) : jfx (X4_access_F1 o (-1) k) (fun _ _ => none) 1000 (nI (p + 1)) I = k I := by
  rw [show (1000 : Nat) = 999 + 1 from rfl, jfx_s, X4_access_F1, if_pos (m1_lt (by omega))]
theorem fetch_sim {B o cnt mode T p fr r0 a : Nat} {S : Nat → Nat} (ho : OB o) (hp : p < 64) {I : jI} {m : Mn} {x9 : Int32} (hC : CORE B o cnt mode T S I m) (hB : B + 33 < 1073741824) (h16 : I o 16 = nI fr) (hfr : fr ≤ 4) (h8 : I o 8 = nI r0) (hr0 : r0 ≤ B) (h9 : I o 9 = x9) (ha : a ≤ 8) (h6 : I o 6 = nI a) (h6m : m 691 = nI a) (h10 : I o 10 = m 696)
    (hrun : if fr = 0 then m 695 = nI p ∧ m 694 = (if nI r0 ≤ 0 then 1 else if nI p = x9 + 1 then nI r0 + 1 else 1) else m 694 = nI r0 ∧ (m 694 = 0 ∨ x9 = m 695)) :
    ∃ I' m', (∀ k19, runK o (nI p) (fun v14 I15 => jfx (X4_access_F1 o v14 k19) (fun _ _ => none) 1000 (nI (p + 1)) I15) I = k19 I') ∧ (∀ J : jI, J 165 = m → J 164 6 = nI fr → ∀ k5, jfx (X7_follows_F3 164 (nI p) (nI cnt - 1) k5) (fun _ _ => none) 1000 (nI (p + 1)) J = k5 (jrow J 165 m')) ∧ CORE (B + 32) o cnt mode T S I' m' ∧
      (∀ r j, (r < o ∨ o + 46 ≤ r ∨ (o + 4 ≤ r ∧ r ≤ o + 9) ∨ r = o + 1 ∨ (r = o ∧ j ≠ 8 ∧ j ≠ 9 ∧ j ≠ 10 ∧ j ≠ 11 ∧ j ≠ 13) ∨ (r = o + 3 ∧ j ≠ 0)) → I' r j = I r j) ∧ (∀ i, ((64 ≤ i ∧ i < 128) ∨ (688 ≤ i ∧ i ≠ 696 ∧ i ≠ 697 ∧ i ≠ 699 ∧ i ≠ 700)) → m' i = m i) ∧ RUN (B + 1) o I' m' ∧ I' o 10 = m' 696 := by
  obtain ⟨⟨hc4, -⟩, ⟨hcI, hcm, -⟩, -⟩ := id hC
  by_cases hf : fr = 0
  · rw [if_pos hf] at hrun
    obtain ⟨hr5, hr4⟩ := hrun
    obtain ⟨r1, hr1, hr1e⟩ : ∃ r1, r1 ≤ r0 + 1 ∧ (1 ≤ r1 ∧ (if nI r0 ≤ 0 then (1 : Int32) else if nI p = x9 + 1 then nI r0 + 1 else 1) = nI r1) := by
      by_cases c : nI r0 ≤ 0
      · exact ⟨1, by omega, by omega, by rw [if_pos c]; rfl⟩
      · by_cases c2 : nI p = x9 + 1
        · exact ⟨r0 + 1, by omega, by omega, by rw [if_neg c, if_pos c2]; exact nI_1 r0⟩
        · exact ⟨1, by omega, by omega, by rw [if_neg c, if_neg c2]; rfl⟩
    obtain ⟨hr11, hr1e⟩ := hr1e
    rw [hr1e] at hr4
    obtain ⟨I5, hI5⟩ : ∃ I5, I5 = jup (jup I o 8 (nI r1)) o 9 (nI p) := ⟨_, rfl⟩
    have eI5 : ∀ r, r ≠ o → I5 r = I r := fun r hr => by rw [hI5, jup_ne _ _ hr, jup_ne _ _ hr]
    have eI5o : ∀ f, f ≠ 8 → f ≠ 9 → I5 o f = I o f := fun f h1 h2 => by rw [hI5, jup_q, ju1_ne _ _ h2, jup_q, ju1_ne _ _ h1]
    have eI58 : I5 o 8 = nI r1 := by rw [hI5, jup_q, ju1_ne _ _ (by omega), jup_q, ju1_eq]
    have eI59 : I5 o 9 = nI p := by rw [hI5, jup_q, ju1_eq]
    have hC5 : CORE B o cnt mode T S I5 m := hC.congr (eI5 _ (by omega)) (fun r a b => eI5 r (by omega)) (by rw [eI5 _ (by omega)]) (fun f hf => eI5o f (by omega) (by omega)) (fun _ _ => rfl)
    have hrunOn : X4_runOn o (nI p) I = if nI r1 < 2 then some (-1, I5) else if nI cnt = 0 then some (-1, I5) else some (nI (min (p + a) 63), I5) := by
      unfold X4_runOn
      rw [h8, h9, hr1e, jlet_d, jlet_d, jlet_d, jlet_d, ← hI5, eI58, eI5o 1 (by omega) (by omega), eI5o 6 (by omega) (by omega), hcI, h6, nI_add, min63 (by omega)]
    have hRUN : ∀ I' : jI, (∀ j, j = 8 ∨ j = 9 → I' o j = I5 o j) → ∀ m' : Mn, (∀ i, i = 694 ∨ i = 695 → m' i = m i) → RUN (B + 1) o I' m' := fun I' h1 m' h2 => ⟨⟨r1, by omega, by rw [h1 8 (by omega)]; exact eI58, by rw [h2 694 (by omega)]; exact hr4⟩, Or.inr (by rw [h1 9 (by omega), h2 695 (by omega), eI59, hr5])⟩
    by_cases hgo : 2 ≤ r1 ∧ 0 < cnt
    · obtain ⟨hg1, hg2⟩ := hgo
      obtain ⟨I', m', e1, e2, e3, e4, e5, e6⟩ := fet_key (last := min (p + a) 63) (h := nI fr) ho hp ha rfl hg2 (by rw [hf]; rfl) (min (p + a) 63 - p) 1000 (p + 1) B I5 m hC5 (by omega) (by omega) (by omega) (by omega) h6m ⟨r1, hg1, by omega, hr4⟩ (by rw [eI5o _ (by omega) (by omega)]; exact h10)
      refine ⟨I', m', fun k19 => ?_, fun J hJ hJ6 k5 => ?_, e3.mono (by omega), fun r j hr => ?_, e5, hRUN I' (fun j hj => e4 o j (by omega)) m' (fun i hi => e5 i (by omega)), e6⟩
      · unfold runK
        rw [h16, hf, if_pos (show nI 0 = (0 : Int32) from rfl), hrunOn, if_neg (show ¬ nI r1 < (2 : Int32) from lnlt (2 : Int32) 2 rfl hg1 (by omega)), if_neg (nI_ne0 hg2 (by omega)), jb2_some]
        exact e1 k19
      · obtain ⟨c', hc'⟩ : ∃ c', cnt = c' + 1 := ⟨cnt - 1, by omega⟩
        have e2' := e2 J hJ hJ6 k5
        rw [show nI (cnt - 1) = nI cnt - 1 by rw [hc', nI_pred]; rfl] at e2'
        exact e2'
      · rw [e4 r j (by omega)]
        by_cases e : r = o
        · subst e; exact eI5o j (by omega) (by omega)
        · rw [eI5 r e]
    · refine ⟨I5, m, fun k19 => ?_, fun J hJ hJ6 k5 => ?_, hC5.mono (by omega), fun r j hr => ?_, fun _ _ => rfl, hRUN I5 (fun _ _ => rfl) m (fun _ _ => rfl), by rw [eI5o _ (by omega) (by omega)]; exact h10⟩
      · unfold runK
        rw [h16, hf, if_pos (show nI 0 = (0 : Int32) from rfl), hrunOn]
        by_cases c : nI r1 < 2
        · rw [if_pos c, jb2_some]; exact F1_no hp k19
        · rw [if_neg c]
          have : 2 ≤ r1 := by
            rcases Nat.lt_or_ge r1 2 with z | z
            · exact absurd (llt (2 : Int32) 2 rfl z (by omega)) c
            · exact z
          rw [show cnt = 0 by omega, if_pos (show nI 0 = (0 : Int32) from rfl), jb2_some]; exact F1_no hp k19
      · rw [show (1000 : Nat) = 999 + 1 from rfl, jfx_s, X7_follows_F3, hJ6, hf, if_pos (show nI 0 = (0 : Int32) from rfl), if_pos (by decide), rM0, show ((694 : Int32)).toNatClampNeg = 694 from rfl, hJ, hr4, ← hJ, jrow_id]
        by_cases c : nI r1 ≤ (1 : Int32)
        · rw [if_pos c]
        · rw [if_neg c]
          have : 2 ≤ r1 := by
            rcases Nat.lt_or_ge r1 2 with z | z
            · exact absurd (show nI r1 ≤ nI 1 from nI_le (by omega) (by omega)) c
            · exact z
          rw [show cnt = 0 by omega, if_pos (by decide)]
      · by_cases e : r = o
        · subst e; exact eI5o j (by omega) (by omega)
        · rw [eI5 r e]
  · rw [if_neg hf] at hrun
    refine ⟨I, m, fun k19 => ?_, fun J hJ hJ6 k5 => ?_, hC.mono (by omega), fun _ _ _ => rfl, fun _ _ => rfl, ⟨⟨r0, by omega, h8, hrun.1⟩, by rw [h9]; exact hrun.2⟩, h10⟩
    · unfold runK
      rw [h16, if_neg (nI_ne0 (by omega) (by omega))]; exact F1_no hp k19
    · rw [show (1000 : Nat) = 999 + 1 from rfl, jfx_s, X7_follows_F3, hJ6, if_neg (nI_ne0 (by omega) (by omega)), ← hJ, jrow_id]
theorem follows_e {p cnt : Nat} {w : Int32} (J : jI) (hcm : J 165 688 = nI cnt) : X7_follows 164 (nI p) w J = jfx (X7_follows_F3 164 (nI p) (nI cnt - 1) (fun I4 => jfx (X7_follows_F2 164 (fun (I6 : jI) =>
if jin (704 : Int32) 784 then jlet (jup I6 (rfC 164 0) ((704 : Int32)).toNatClampNeg (nI p)) (fun (I9 : jI) =>
if jin (705 : Int32) 784 then jlet (jup I9 (rfC 164 0) ((705 : Int32)).toNatClampNeg w) (fun (I11 : jI) =>
if jin (706 : Int32) 784 then jlet (jup I11 (rfC 164 0) ((706 : Int32)).toNatClampNeg (I11 164 5)) (fun (I13 : jI) =>
if jin (707 : Int32) 784 then jlet (jup I13 (rfC 164 0) ((707 : Int32)).toNatClampNeg (I13 164 6)) (fun (I15 : jI) =>
if jin (702 : Int32) 784 then (
if jin (702 : Int32) 784 then jlet (jup I15 (rfC 164 0) ((702 : Int32)).toNatClampNeg (jmin (20 : Int32) ((I15 (rfC 164 0) ((702 : Int32)).toNatClampNeg) + (1 : Int32)))) (fun (I18 : jI) =>
some I18) else none) else none) else none) else none) else none) else none)) (fun _ _ => none) 1000 (19 : Int32) I4)) (fun _ _ => none) 1000 (nI (p + 1)) J := by
  unfold X7_follows
  rw [if_pos (by decide), rM0, show ((688 : Int32)).toNatClampNeg = 688 from rfl, hcm, show nI p + (1 : Int32) = nI (p + 1) from nI_1 _]
  rw [jlet_d, jlet_d, jlet_d]
  refine congrArg (fun k5 => jfx (X7_follows_F3 164 (nI p) (nI cnt - 1) k5) (fun _ _ => none) 1000 (nI (p + 1)) J) (funext fun I4 => ?_)
  rw [jlet_d]
theorem access_e (o : Nat) (p0 p1 p2 : Int32) (I0 : jI) : X4_access o p0 p1 p2 I0 = jb2 (X4_lookFor o p0 (jup I0 o 7 ((I0 o 7) + (1 : Int32)))) (fun (y2 : Int32) (I3 : jI) => jb2 (X4_leaveToComeNear o p0 I3) (fun (y5 : Int32) (I6 : jI) => (X4_farthestToHold o I6).bind (fun (y8 : Int32) =>
  jfx (X4_access_F2 o p0 y5 (fun (I10 : jI) => jlet (fun (I12 : jI) => runK o p0 (fun v14 I15 => jfx (X4_access_F1 o v14 (fun (I18 : jI) => jlet (jup I18 o 12 ((I18 o 12) + y2)) (fun (I20 : jI) => (X1_note (rfC o 15) (I20 o 7) p0 p1 y2 (I20 o 16) I20).bind (fun (I21 : jI) => some (y2, I21))))) (fun _ _ => none) 1000 (p0 + 1) I15) I12) (fun (k13 : jI → Option (Int32 × jI)) => if p1 = 0 then k13 I10 else (X4_putValue o p0 p2 I10).bind (fun (I42 : jI) => k13 I42)))) (fun _ _ => none) 1000 y8 I6))) := by
  unfold X4_access
  rw [jlet_d]
  refine congrArg _ ?_
  funext y2 I3
  refine congrArg _ ?_
  funext y5 I6
  refine congrArg _ ?_
  funext y8
  rw [jlet_d]
  refine congrArg (fun k => jfx (X4_access_F2 o p0 y5 k) (fun _ _ => none) 1000 y8 I6) ?_
  funext I10
  rw [jlet_d, jlet_d]
  have e : (fun (I12 : jI) => jlet (fun (v14 : Int32) (I15 : jI) =>
    jlet ((p0 + (1 : Int32))) (fun (y17 : Int32) =>
    jlet (fun (I18 : jI) =>
    jlet (jup I18 o 12 ((I18 o 12) + y2)) (fun (I20 : jI) =>
    (X1_note (rfC o 15) (I20 o 7) p0 p1 y2 (I20 o 16) I20).bind (fun (I21 : jI) =>
    some (y2, I21)))) (fun (k19 : jI → Option (Int32 × jI)) =>
    jfx (X4_access_F1 o v14 k19) (fun _ _ => none) 1000 y17 I15))) (fun (k16 : Int32 → jI → Option (Int32 × jI)) =>
    if (I12 o 16) = 0 then (
    jb2 (X4_runOn o p0 I12) (fun (y38 : Int32) (I39 : jI) =>
    k16 y38 I39))
    else (
    k16 (-1 : Int32) I12))) = (fun (I12 : jI) => runK o p0 (fun v14 I15 => jfx (X4_access_F1 o v14 (fun (I18 : jI) => jlet (jup I18 o 12 ((I18 o 12) + y2)) (fun (I20 : jI) => (X1_note (rfC o 15) (I20 o 7) p0 p1 y2 (I20 o 16) I20).bind (fun (I21 : jI) => some (y2, I21))))) (fun _ _ => none) 1000 (p0 + 1) I15) I12) := by
    funext I12
    unfold runK
    rw [jlet_d]
    have e2 : (fun (v14 : Int32) (I15 : jI) =>
      jlet ((p0 + (1 : Int32))) (fun (y17 : Int32) =>
      jlet (fun (I18 : jI) =>
      jlet (jup I18 o 12 ((I18 o 12) + y2)) (fun (I20 : jI) =>
      (X1_note (rfC o 15) (I20 o 7) p0 p1 y2 (I20 o 16) I20).bind (fun (I21 : jI) =>
      some (y2, I21)))) (fun (k19 : jI → Option (Int32 × jI)) =>
      jfx (X4_access_F1 o v14 k19) (fun _ _ => none) 1000 y17 I15))) = (fun v14 I15 => jfx (X4_access_F1 o v14 (fun (I18 : jI) => jlet (jup I18 o 12 ((I18 o 12) + y2)) (fun (I20 : jI) => (X1_note (rfC o 15) (I20 o 7) p0 p1 y2 (I20 o 16) I20).bind (fun (I21 : jI) => some (y2, I21))))) (fun _ _ => none) 1000 (p0 + 1) I15) := by
      funext v14 I15
      rw [jlet_d, jlet_d]
    rw [e2]
  rw [e]
