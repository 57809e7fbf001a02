/-! DAYS: on both sides -/
theorem drawG {s : Nat} (hs : 1 ≤ s ∧ s ≤ 1000) (I : jI) : ∃ k x, k < s ∧ X0_drawBelow 5 (nI s) I = some (nI k, jup I 5 0 x) ∧ ∀ J : jI, J 165 699 = I 5 0 → X7_draw 164 (nI s) J = some (nI k, jrow J 165 (ju1 (J 165) 699 x)) := by
  have n0 : ¬ nI s = 0 := nI_ne0 (by omega) (by omega)
  obtain ⟨y, hy, e⟩ := jushr16 (I 5 0 * 1103515245 + 12345)
  refine ⟨y % s, I 5 0 * 1103515245 + 12345, Nat.mod_lt _ (by omega), ?_, fun J hJ => ?_⟩
  · unfold X0_drawBelow
    rw [jlet_d, if_neg (by rw [le0_N (by omega)]; omega), if_neg n0, jup_q, ju1_eq, e, jrem_N (by omega) (by omega) (by omega)]
  · unfold X7_draw
    rw [if_pos (by decide), if_pos (by decide), jlet_d, if_pos (by decide), if_neg n0, rM0, show ((699 : Int32)).toNatClampNeg = 699 from rfl, jup_q, ju1_eq, hJ, e, jrem_N (by omega) (by omega) (by omega), jup_def]
section DY
variable {B cnt mode T : Nat} {S : Nat → Nat} {I : jI} {m : Mn} {L : jL}
theorem ST.day {o : Nat} (h : ST B o cnt mode T S I m) {p : Nat} (hp : p < 64) : ST B o cnt mode T S (jup I (o + 3) 1 (nI p)) (ju1 m 701 (nI p)) := by
  obtain ⟨⟨r, a1, a2, a3⟩, a4⟩ := h.2.2.2.2.2.1
  obtain ⟨⟨g1, g1', g1''⟩, ⟨x1, x2, x3, x4, x5, x6⟩, g3, g4, g5, g6, ⟨c1, c2, c3, c4, c5, -, g7, g8, g9⟩⟩ := h
  have ef : ∀ f, jup I (o + 3) 1 (nI p) o f = I o f := fun f => by rw [jup_ne _ _ (by omega)]
  have em : ∀ i, i ≠ 701 → ju1 m 701 (nI p) i = m i := fun i hi => ju1_ne _ _ hi
  refine ⟨⟨g1, g1', g1''⟩, ⟨by rw [ef]; exact x1, by rw [em _ (by omega)]; exact x2, by rw [ef]; exact x3, by rw [em _ (by omega)]; exact x4, by rw [ef]; exact x5, by rw [em _ (by omega)]; exact x6⟩, fun j hj => (g3 j hj).congr (fun r _ _ => jup_ne _ _ (by omega)) (fun i _ _ => em i (by omega)), g4.congr (jup_ne _ _ (by omega)) (ef _) (jup_nj _ _ (by omega)) (ef _) (fun i hi => em i (by omega)), fun e => (g5 e).of g1 (fun j kk _ h1 h3 => Or.inl (em _ (by omega))), ⟨⟨r, a1, by rw [ef]; exact a2, by rw [em _ (by omega)]; exact a3⟩, by rw [ef, em _ (by omega), em _ (by omega)]; exact a4⟩, ⟨by rw [ef, em _ (by omega)]; exact c1, by rw [ef, em _ (by omega)]; exact c2, by rw [ef, em _ (by omega)]; exact c3, by rw [ef, em _ (by omega)]; exact c4, by rw [ef, em _ (by omega)]; exact c5, ⟨p, hp, by rw [jup_q, ju1_eq], Or.inl (ju1_eq _ _ _)⟩, fun q hq => by rw [jup_ne _ _ (by omega), em _ (by omega)]; exact g7 q hq, by rw [em _ (by omega)]; exact g8, fun i hi => ?_⟩⟩
  obtain ⟨z1, z2, z3, z4⟩ := g9 i hi
  rw [jup_ne _ _ (by omega), jup_ne _ _ (by omega), jup_ne _ _ (by omega), jup_ne _ _ (by omega), em _ (by omega), em _ (by omega), em _ (by omega), em _ (by omega)]
  exact ⟨z1, z2, z3, z4⟩
def dayM {ρ : Type} (k19 : Int32 → jI → Option ρ) (J : jI) : Option ρ := jb2 (X7_draw 164 (3 : Int32) J) (fun (y14 : Int32) (I15 : jI) =>
if y14 = 0 then (
jb2 (X7_draw 164 (64 : Int32) I15) (fun (y40 : Int32) (I41 : jI) =>
k19 y40 I41))
else (
if jin (701 : Int32) 784 then (
if (I15 (rfC 164 0) ((701 : Int32)).toNatClampNeg) = (-1 : Int32) then (
k19 (1 : Int32) I15)
else (
if jin (701 : Int32) 784 then (
if (64 : Int32) = 0 then none else (
k19 (jrem ((I15 (rfC 164 0) ((701 : Int32)).toNatClampNeg) + (1 : Int32)) (64 : Int32)) I15)) else none)) else none))
theorem drawPage_sim (h : ST B 2 cnt mode T S I m) : ∃ p I' m0, p < 64 ∧ X0_drawPage 5 I = some (nI p, I') ∧ (∀ (ρ : Type) (J : jI), J 165 = m → ∀ k : Int32 → jI → Option ρ, dayM k J = k (nI p) (jrow J 165 m0)) ∧ ST B 2 cnt mode T S I' (ju1 m0 701 (nI p)) ∧ ∀ r, r ≠ 5 → I' r = I r := by
  obtain ⟨k3, x1, hk3, c1, m1⟩ := drawG (s := 3) (by omega) I
  have hs : I 5 0 = m 699 := h.2.2.2.1.2.2.1
  have s1 := h.seed x1
  obtain ⟨d, hd, hd1, hd2⟩ := h.2.2.2.2.2.2.2.2.2.2.2.1
  by_cases hk : k3 = 0
  · subst hk
    obtain ⟨p, x2, hp, c2, m2⟩ := drawG (s := 64) (by omega) (jup I 5 0 x1)
    refine ⟨p, jup (jup (jup I 5 0 x1) 5 0 x2) 5 1 (nI p), ju1 (ju1 m 699 x1) 699 x2, hp, ?_, fun ρ J hJ k => ?_, (s1.seed x2).day hp, fun r hr => by rw [jup_ne _ _ hr, jup_ne _ _ hr, jup_ne _ _ hr]⟩
    · unfold X0_drawPage
      rw [show (3 : Int32) = nI 3 from rfl, c1, jb2_some, if_pos n00, show (64 : Int32) = nI 64 from rfl, c2, jb2_some, jlet_d, jup_q, ju1_eq]
    · unfold dayM
      rw [show (3 : Int32) = nI 3 from rfl, m1 J (by rw [hJ, hs]), jb2_some, if_pos n00, show (64 : Int32) = nI 64 from rfl, m2 _ (by rw [jrow_self, ju1_eq, jup_q, ju1_eq]), jb2_some, jrow_self, jrow_jrow, hJ]
  · refine ⟨(d + 1) % 64, jup (jup I 5 0 x1) 5 1 (nI ((d + 1) % 64)), ju1 m 699 x1, Nat.mod_lt _ (by omega), ?_, fun ρ J hJ k => ?_, s1.day (Nat.mod_lt _ (by omega)), fun r hr => by rw [jup_ne _ _ hr, jup_ne _ _ hr]⟩
    · unfold X0_drawPage
      rw [show (3 : Int32) = nI 3 from rfl, c1, jb2_some, if_neg (nI_ne0 (by omega) (by omega)), if_neg (by decide), jlet_d, show jup I 5 0 x1 5 1 = nI d from (jup_nj _ _ (by omega)).trans hd1, nI_1, show (64 : Int32) = nI 64 from rfl, jrem_N (by omega) (by omega) (by omega), jup_q, ju1_eq]
    · unfold dayM
      rw [show (3 : Int32) = nI 3 from rfl, m1 J (by rw [hJ, hs]), jb2_some, if_neg (nI_ne0 (by omega) (by omega)), if_pos (by decide), rM0, show ((701 : Int32)).toNatClampNeg = 701 from rfl, jrow_self, ju1_ne _ _ (by omega), hJ]
      rcases hd2 with e | ⟨e0, e⟩
      · rw [e, if_neg (m1_ne (by omega)), if_pos (by decide), if_neg (by decide), nI_1, show (64 : Int32) = nI 64 from rfl, jrem_N (by omega) (by omega) (by omega)]
      · subst e0
        rw [e, if_pos rfl]
        rfl
theorem days_key (N : Nat) (hN : N ≤ 60) : ∀ d n i (B T : Nat) (acc : Int32) (I : jI) (m : Mn), ST B 2 cnt mode T S I m → i + d = N → d < n → B + 64 * d < 1073741824 →
    ∃ v I' m' T', jfx (X6_days_F1 1 (nI N)) (fun _ _ _ => none) n acc (nI i) I = some (v, I') ∧ (∀ J : jI, J 165 = m → ∃ c h6, jfx (X7_days_F1 164 (nI N)) (fun _ _ _ => none) n acc (nI i) J = some (v, Nf J c h6 m')) ∧ ST (B + 64 * d) 2 cnt mode T' S I' m' ∧ ∀ r, (r < 2 ∨ 48 ≤ r) → I' r = I r := by
  intro d
  induction d with
  | zero =>
    intro n i B T acc I m h h1 h2 h3
    obtain ⟨n, rfl⟩ : ∃ q, n = q + 1 := ⟨n - 1, by omega⟩
    refine ⟨acc, I, m, T, ?_, fun J hJ => ⟨J 164 5, J 164 6, ?_⟩, h.mono (by omega), fun _ _ => rfl⟩
    · rw [jfx_s, X6_days_F1, if_pos (nI_le (by omega) (by omega))]
    · rw [jfx_s, X7_days_F1, if_pos (nI_le (by omega) (by omega)), ← jN, ← hJ, jrow_id]
  | succ d ih =>
    intro n i B T acc I m h h1 h2 h3
    obtain ⟨n, rfl⟩ : ∃ q, n = q + 1 := ⟨n - 1, by omega⟩
    have hs : I 5 0 = m 699 := h.2.2.2.1.2.2.1
    obtain ⟨k4, x4, hk4, c4, m4⟩ := drawG (s := 4) (by omega) I
    obtain ⟨p, I2, m2, hp, cP, mP, sP, fP⟩ := drawPage_sim (h.seed x4)
    have modelE : ∀ (k : Int32 → jI → Option (Int32 × jI)) (J : jI), J 165 = m → jb2 (X7_draw 164 (4 : Int32) J) (fun y9 I10 => jlet (if y9 = 0 then (1 : Int32) else (0 : Int32)) (fun (y13 : Int32) => dayM (fun v17 I18 => if jin (701 : Int32) 784 then jlet (jup I18 (rfC 164 0) ((701 : Int32)).toNatClampNeg v17) (fun (I21 : jI) => if y13 = 0 then (
jb2 (X7_reads 164 v17 I21) (fun (y26 : Int32) (I27 : jI) =>
k y26 I27))
else (
jb2 (X7_draw 164 (100 : Int32) I21) (fun (y29 : Int32) (I30 : jI) =>
jb2 (X7_writes 164 v17 y29 I30) (fun (y32 : Int32) (I33 : jI) =>
k y32 I33)))) else none) I10)) = (if (if nI k4 = 0 then (1 : Int32) else 0) = 0 then (
jb2 (X7_reads 164 (nI p) (jrow J 165 (ju1 m2 701 (nI p)))) (fun (y26 : Int32) (I27 : jI) =>
k y26 I27))
else (
jb2 (X7_draw 164 (100 : Int32) (jrow J 165 (ju1 m2 701 (nI p)))) (fun (y29 : Int32) (I30 : jI) =>
jb2 (X7_writes 164 (nI p) y29 I30) (fun (y32 : Int32) (I33 : jI) =>
k y32 I33)))) := fun k J hJ => by
      rw [show (4 : Int32) = nI 4 from rfl, m4 J (by rw [hJ, hs]), jb2_some, jlet_d, mP _ _ (by rw [jrow_self, hJ])]
      rw [if_pos (by decide), jlet_d, rM0, show ((701 : Int32)).toNatClampNeg = 701 from rfl, jrow_jrow, jrow_jup]
    have step : ∃ cost h6 I' m', X6_days_F1 1 (nI N) (jfx (X6_days_F1 1 (nI N)) (fun _ _ _ => none) n) acc (nI i) I = jfx (X6_days_F1 1 (nI N)) (fun _ _ _ => none) n (acc + nI cost) (nI (i + 1)) I' ∧ (∀ J : jI, J 165 = m → X7_days_F1 164 (nI N) (jfx (X7_days_F1 164 (nI N)) (fun _ _ _ => none) n) acc (nI i) J = jfx (X7_days_F1 164 (nI N)) (fun _ _ _ => none) n (acc + nI cost) (nI (i + 1)) (Nf J (nI cost) h6 m')) ∧ ST (B + 64) 2 cnt mode (T + 1) S I' m' ∧ ∀ r, (r < 2 ∨ 48 ≤ r) → I' r = I r := by
      have f2 : ∀ r, (r < 2 ∨ 48 ≤ r) → I2 r = I r := fun r hr => by rw [fP r (by omega), jup_ne _ _ (by omega)]
      by_cases hk : k4 = 0
      · subst hk
        obtain ⟨v, x5, hv, c5, m5⟩ := drawG (s := 100) (by omega) I2
        obtain ⟨cost, h6, I', m', -, a1, -, a3, a4, a5, -⟩ := access_sim OB2 (sP.seed x5) hp (w := 1) (v := nI v) (Or.inr rfl) (by omega)
        refine ⟨cost, h6, I', m', ?_, fun J hJ => ?_, a4, fun r hr => by rw [a5 r (by omega), jup_ne _ _ (by omega), f2 r hr]⟩
        · rw [X6_days_F1, if_neg (nI_ge (by omega) (by omega)), rR.1, (SB_o OB2).2.2.1, show (4 : Int32) = nI 4 from rfl, c4, jb2_some, jlet_d, cP, jb2_some, jlet_d, if_pos n00, if_neg (by decide), show (100 : Int32) = nI 100 from rfl, c5, jb2_some]
          dsimp only
          rw [show X4_access 2 (nI p) 1 (nI v) (jup I2 5 0 x5) = some (nI cost, I') from a1, jb2_some, jlet_d, show nI i + (1 : Int32) = nI (i + 1) from nI_1 _]
        · rw [X7_days_F1, if_neg (nI_ge (by omega) (by omega))]
          refine (modelE (fun _ I22 => jlet ((acc + (I22 164 5))) (fun (y24 : Int32) => jfx (X7_days_F1 164 (nI N)) (fun _ _ _ => none) n y24 (nI i + (1 : Int32)) I22)) J hJ).trans ?_
          rw [if_pos n00, if_neg (by decide), show (100 : Int32) = nI 100 from rfl, m5 _ (by rw [jrow_self]; exact sP.2.2.2.1.2.2.1.symm), jb2_some, jrow_self, jrow_jrow, a3 rfl _ (jrow_self _ _ _), jb2_some, jlet_d, Nf_5, Nf_jrow, show nI i + (1 : Int32) = nI (i + 1) from nI_1 _]
      · obtain ⟨cost, h6, I', m', -, a1, a2, -, a4, a5, -⟩ := access_sim OB2 sP hp (w := 0) (v := 0) (Or.inl rfl) (by omega)
        refine ⟨cost, h6, I', m', ?_, fun J hJ => ?_, a4, fun r hr => by rw [a5 r (by omega), f2 r hr]⟩
        · rw [X6_days_F1, if_neg (nI_ge (by omega) (by omega)), rR.1, (SB_o OB2).2.2.1, show (4 : Int32) = nI 4 from rfl, c4, jb2_some, jlet_d, cP, jb2_some, jlet_d, if_neg (nI_ne0 (by omega) (by omega)), if_pos rfl]
          dsimp only
          rw [a1, jb2_some, jlet_d, show nI i + (1 : Int32) = nI (i + 1) from nI_1 _]
        · rw [X7_days_F1, if_neg (nI_ge (by omega) (by omega))]
          refine (modelE (fun _ I22 => jlet ((acc + (I22 164 5))) (fun (y24 : Int32) => jfx (X7_days_F1 164 (nI N)) (fun _ _ _ => none) n y24 (nI i + (1 : Int32)) I22)) J hJ).trans ?_
          rw [if_neg (nI_ne0 (by omega) (by omega)), if_pos rfl, a2 rfl _ (jrow_self _ _ _), jb2_some, jlet_d, Nf_5, Nf_jrow, show nI i + (1 : Int32) = nI (i + 1) from nI_1 _]
    obtain ⟨cost, h6, I', m', e1, e2, e3, e4⟩ := step
    obtain ⟨v, I'', m'', T', q1, q2, q3, q4⟩ := ih n (i + 1) (B + 64) (T + 1) (acc + nI cost) I' m' e3 (by omega) (by omega) (by omega)
    refine ⟨v, I'', m'', T', by rw [jfx_s, e1]; exact q1, fun J hJ => ?_, q3.mono (by omega), fun r hr => by rw [q4 r hr, e4 r hr]⟩
    obtain ⟨c, h7, q5⟩ := q2 (Nf J (nI cost) h6 m') Nf_165
    exact ⟨c, h7, by rw [jfx_s, e2 J hJ, q5, Nf_Nf]⟩
theorem t_days (h : GG B cnt mode T S I L) (hB : B + 32768 < 1073741824) (x : Int32) : Two B L (X6_days 1 x) (X7_days 164 x) I := by
  rcases wi_c x 1 60 1 60 rfl rfl with hx | ⟨hx, N, hN1, hN2, -, rfl⟩
  · exact Two.ref h 0 (by omega) (-52) rx0 (by unfold X6_days; rw [hx, ob_some, if_pos rfl]; exact jb2_id _) (fun J _ => by unfold X7_days; rw [within_e x 1 60 1 60 rfl rfl, hx, ob_some, if_pos rfl]; exact jb2_id _)
  · obtain ⟨v, I', m', T', q1, q2, q3, q4⟩ := days_key N (by omega) N 1000 0 B T 0 I (I 165) h.1 (by omega) (by omega) (by omega)
    obtain ⟨c, h6, q5⟩ := q2 I' (q4 165 (by omega))
    refine ⟨v, I', Nf I' c h6 m', ?_, ?_, _, _, _, _, (h.acc q3 (by omega) q4 (Nat.le_refl _) c h6).mono (by omega)⟩
    · unfold X6_days
      rw [hx, ob_some, if_neg (by decide)]
      exact q1
    · unfold X7_days
      rw [within_e _ 1 60 1 60 rfl rfl, hx, ob_some, if_neg (by decide)]
      exact q5
end DY
