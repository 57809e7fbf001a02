/-! TRAFFIC as a whole -/
theorem parts_e (p0 : Int32) (J : jI) : X7_parts 164 p0 J = M0 p0 1000 0 0 (jup (jup J 164 9 0) 164 10 (-1)) := by
  unfold X7_parts M0
  rw [jlet_d, jlet_d]
  refine congrArg (fun g => jb2 (X7_part 164 p0 (jup (jup J 164 9 0) 164 10 (-1))) g) ?_
  funext y I
  rw [jlet_d, jlet_d, Int32.zero_add, show nI (0 + 1) = (1 : Int32) from rfl]
  unfold k8M
  rfl
section TQ
variable {B cnt mode T : Nat} {S : Nat → Nat} {I : jI} {L : jL}
theorem GG.tape2 (h : GG B cnt mode T S I L) {F : jI} {B' T' : Nat} (hS : ST B' 2 cnt mode T' S F (F 165)) (hB : B ≤ B') (h1 : ∀ r, ((94 ≤ r ∧ r < 140) ∨ r = 1 ∨ (148 ≤ r ∧ r < 164) ∨ r = 166 ∨ r = 170 ∨ r = 171) → F r = I r) (h3 : F 164 3 = I 164 3) (hT : TAP F) (hR : RFS F) : GG B' cnt mode T' S F L := by
  refine ⟨hS, fun s hs => (h.2.1 s hs).congr (fun k _ => by rw [h1 _ (by omega)]) (by rw [h1 _ (by omega)]) (by rw [h1 _ (by omega)]) (fun _ _ => ⟨rfl, rfl⟩), hT, ?_, hR⟩
  rcases h.2.2.2.1 with ⟨a, b⟩ | ⟨a, b, c, mo, t, s, hS⟩
  · exact Or.inl ⟨by rw [h1 1 (by omega)]; exact a, by rw [h3]; exact b⟩
  · exact Or.inr ⟨by rw [h1 1 (by omega)]; exact a, by rw [h3]; exact b, c, mo, t, s, (hS.mono hB).congr (fun r a b => h1 r (by omega)) (fun i _ => by rw [h1 166 (by omega)])⟩
theorem t_traffic (h : GG B cnt mode T S I L) (hB : B + 32768 < 1073741824) : Two B L (X6_traffic 1) (X7_traffic 164) I := by
  have hc4 := h.1.1.1
  obtain ⟨n, hn, t1, t2, t3⟩ := h.2.2.1
  obtain ⟨b, hb⟩ : ∃ b : Nat → Nat, b = fun i => (I 141 i).toInt.toNat := ⟨_, rfl⟩
  have hby : ∀ i, i < n → b i < 256 ∧ I 141 i = nI (b i) ∧ I 169 i = nI (b i) := fun i hi => by
    obtain ⟨x, x1, x2, x3⟩ := t3 i hi
    have : b i = x := by rw [hb]; show (I 141 i).toInt.toNat = x; rw [x2, nI_toInt (by omega)]; omega
    rw [this]; exact ⟨x1, x2, x3⟩
  have hbb : ∀ i, i < n → b i < 256 := fun i hi => (hby i hi).1
  obtain ⟨I2, hI2⟩ : ∃ I2, I2 = jup (jup I 140 6 0) 140 1 0 := ⟨_, rfl⟩
  have e2 : ∀ r, r ≠ 140 → I2 r = I r := fun r hr => by rw [hI2, jup_ne _ _ hr, jup_ne _ _ hr]
  obtain ⟨I', F, hsc⟩ := scan (b := b) (n := n) (cnt := cnt) hn hc4 29 0 0 1000 1000 I2 (by omega) ⟨by rw [hI2, jup_nj _ _ (by omega), jup_nj _ _ (by omega)]; exact t1, by rw [hI2, jup_nj _ _ (by omega), jup_q, ju1_eq]; rfl, fun i hi => by rw [e2 141 (by omega)]; exact ⟨(hby i hi).1, (hby i hi).2.1⟩⟩ (by omega) (by rw [hI2, jup_q, ju1_eq]; rfl) (by omega) (by omega)
  rw [show nI (0 + 1) = (1 : Int32) from rfl] at hsc
  obtain ⟨I4, hI4⟩ : ∃ I4, I4 = jup I' 140 0 0 := ⟨_, rfl⟩
  have e4 : ∀ r, r ≠ 140 → r ≠ 142 → r ≠ 143 → r ≠ 144 → I4 r = I r := fun r h1 h2 h3 h4 => by
    rw [hI4, jup_ne _ _ h1]
    funext j
    rw [F r j (by omega) (by omega), e2 r h1]
  have cC : X6_traffic 1 I = jb2 (jfx (X5_findFault_F1 140 (nI cnt)) (fun _ _ => none) 1000 (1 : Int32) I2) (fun (y1 : Int32) (I2 : jI) =>
jlet (jup I2 140 0 (0 : Int32)) (fun (I4 : jI) =>
if y1 = (-1 : Int32) then (
jfx (X6_traffic_F1 1) (fun _ _ _ => none) 1000 (0 : Int32) (0 : Int32) I4)
else (
jb2 (X6_refuse 1 (-52 : Int32) I4) (fun (y15 : Int32) (I16 : jI) =>
some (((-800 : Int32) - y1), I16))))) := by
    unfold X6_traffic X5_findFault
    rw [rT.1, rR.1, h.1.2.1.1, jlet_d, jlet_d, ← hI2]
  have tmF : ∀ (J : jI), (∀ r, r ≠ 140 → r ≠ 142 → r ≠ 143 → r ≠ 144 → r ≠ 146 → (r < 2 ∨ 48 ≤ r) → J r = I r) → TM (jup (jup J 164 9 0) 164 10 (-1)) n 0 b ∧ jup (jup J 164 9 0) 164 10 (-1) 164 10 = -1 ∧ jup (jup J 164 9 0) 164 10 (-1) 165 688 = nI cnt := fun J hJ => by
    refine ⟨⟨?_, ?_, fun i hi => ?_⟩, by rw [jup_q, ju1_eq], ?_⟩
    · rw [jup_nj _ _ (by omega), jup_nj _ _ (by omega), hJ 164 (by omega) (by omega) (by omega) (by omega) (by omega) (by omega)]; exact t2
    · rw [jup_nj _ _ (by omega), jup_q, ju1_eq]; rfl
    · rw [jup_nj _ _ (by omega), jup_nj _ _ (by omega), hJ 169 (by omega) (by omega) (by omega) (by omega) (by omega) (by omega)]; exact (hby i hi).2.2
    · rw [jup_nj _ _ (by omega), jup_nj _ _ (by omega), hJ 165 (by omega) (by omega) (by omega) (by omega) (by omega) (by omega)]; exact h.1.2.1.2.1
  rcases hsc with ⟨q, hq, f1, f2⟩ | ⟨K, PC, X, Y, PL, PE, f1, hPL, hR, f2⟩
  · obtain ⟨I5, hI5⟩ : ∃ I5, I5 = jup I4 146 0 (I4 146 0 + 1) := ⟨_, rfl⟩
    have e5 : ∀ r, r ≠ 140 → r ≠ 142 → r ≠ 143 → r ≠ 144 → r ≠ 146 → I5 r = I r := fun r h1 h2 h3 h4 h5 => by rw [hI5, jup_ne _ _ h5, e4 r h1 h2 h3 h4]
    obtain ⟨m1, m2, m3⟩ := tmF I5 (fun r h1 h2 h3 h4 h5 _ => e5 r h1 h2 h3 h4 h5)
    obtain ⟨J', p1, p2, p3⟩ := f2 _ m1 m2 m3
    have eJ : ∀ r, r ≠ 164 → J' r = I5 r := fun r hr => by
      funext k
      rw [p3 r k (by omega), jup_ne _ _ hr, jup_ne _ _ hr]
    obtain ⟨J9, hJ9⟩ : ∃ J9, J9 = jup J' 164 8 0 := ⟨_, rfl⟩
    obtain ⟨J10, hJ10⟩ : ∃ J10, J10 = jup J9 168 0 (J9 168 0 + 1) := ⟨_, rfl⟩
    have eF : ∀ r, r ≠ 164 → r ≠ 168 → J10 r = I5 r := fun r h1 h2 => by rw [hJ10, jup_ne _ _ h2, hJ9, jup_ne _ _ h1, eJ r h1]
    refine ⟨(-800 : Int32) - nI q, I5, J10, ?_, ?_, cnt, mode, T, S, GG.mono (h.tape2 (F := J10) (B' := B) ?_ (Nat.le_refl _) (fun r hr => by rw [eF r (by omega) (by omega), e5 r (by omega) (by omega) (by omega) (by omega) (by omega)]) ?_ ⟨0, by omega, ?_, ?_, fun i hi => by omega⟩ (fun e he => ?_)) (by omega)⟩
    · rw [cC, f1, jb2_some, jlet_d, ← hI4, if_neg (m1_ne (by omega)), refuse_c 0 (by omega) (-52) rx0 I4, jb2_some, rT.2.2.1, ← hI5]
    · unfold X7_traffic
      rw [parts_e, p1, jb2_some, p2, if_neg (nI_pos (by omega)), jlet_d, ← hJ9, refuse_m 0 (by omega) (-52) rx0 J9, jb2_some, ← hJ10, show J10 164 10 = nI q by rw [hJ10, jup_ne _ _ (by omega), hJ9, jup_nj _ _ (by omega)]; exact p2]
    · rw [eF 165 (by omega) (by omega), e5 165 (by omega) (by omega) (by omega) (by omega) (by omega)]
      exact h.1.congr (fun r a b => by rw [eF r (by omega) (by omega), e5 r (by omega) (by omega) (by omega) (by omega) (by omega)]) (fun _ _ => rfl)
    · rw [hJ10, jup_ne _ _ (by omega), hJ9, jup_nj _ _ (by omega), p3 164 3 (by omega), jup_nj _ _ (by omega), jup_nj _ _ (by omega), e5 164 (by omega) (by omega) (by omega) (by omega) (by omega)]
    · rw [eF 140 (by omega) (by omega), hI5, jup_ne _ _ (by omega), hI4, jup_q, ju1_eq]; rfl
    · rw [hJ10, jup_ne _ _ (by omega), hJ9, jup_q, ju1_eq]; rfl
    · have a146 : I4 146 = I 146 := e4 146 (by omega) (by omega) (by omega) (by omega)
      have a168 : J9 168 = I 168 := by rw [hJ9, jup_ne _ _ (by omega), eJ 168 (by omega), e5 168 (by omega) (by omega) (by omega) (by omega) (by omega)]
      rw [eF 146 (by omega) (by omega), hI5, hJ10, jup_q, jup_q, a146, a168]
      have := h.2.2.2.2
      by_cases c : e = 0
      · subst c; rw [ju1_eq, ju1_eq, this 0 (by omega)]
      · rw [ju1_ne _ _ c, ju1_ne _ _ c]; exact this e he
  · obtain ⟨r1, r2, r3, r4, r5, r6⟩ := hR
    have hR4 : REC n cnt b I4 0 K PC X Y PL PE := ⟨r1, r2, by rw [hI4, jup_nj _ _ (by omega)]; exact r3, fun j a c => by
      obtain ⟨z1, ⟨z2, z3, z4⟩, z5⟩ := r4 j a c
      exact ⟨z1, ⟨by rw [hI4, jup_ne _ _ (by omega)]; exact z2, by rw [hI4, jup_ne _ _ (by omega)]; exact z3, fun w => by rw [hI4, jup_ne _ _ (by omega)]; exact z4 w⟩, z5⟩, r5, r6⟩
    have hS4 : ST B 2 cnt mode T S I4 (I 165) := h.1.congr (fun r a b => e4 r (by omega) (by omega) (by omega) (by omega)) (fun _ _ => rfl)
    obtain ⟨v, F1, m', T', a1, a2, a3, a4⟩ := run (mode := mode) (S := S) hn hbb hR4 (K - 1) 0 1000 1000 B T 0 I4 (I 165) (by omega) (by omega) (by omega) hS4 (fun _ _ => rfl) (by omega)
    have eF1 : ∀ r, r ≠ 140 → r ≠ 142 → r ≠ 143 → r ≠ 144 → (r < 2 ∨ 48 ≤ r) → F1 r = I r := fun r h1 h2 h3 h4 h5 => by rw [a4 r h5, e4 r h1 h2 h3 h4]
    obtain ⟨m1, m2, m3⟩ := tmF F1 (fun r h1 h2 h3 h4 _ h6 => eF1 r h1 h2 h3 h4 h6)
    obtain ⟨J', p1, p2, p3⟩ := f2 _ m1 m2 m3
    have eJ : ∀ r, r ≠ 164 → J' r = F1 r := fun r hr => by
      funext k
      rw [p3 r k (by omega), jup_ne _ _ hr, jup_ne _ _ hr]
    have eJ4 : ∀ k, k ≠ 9 → k ≠ 10 → J' 164 k = I 164 k := fun k x y => by rw [p3 164 k (by omega), jup_nj _ _ (by omega), jup_nj _ _ (by omega), eF1 164 (by omega) (by omega) (by omega) (by omega) (by omega)]
    obtain ⟨J3, c1, c2, c3⟩ := a2 (jup (jup J' 164 9 0) 164 10 (-1)) (by rw [jup_ne _ _ (by omega), jup_ne _ _ (by omega), eJ 165 (by omega), eF1 165 (by omega) (by omega) (by omega) (by omega) (by omega)]) ⟨by rw [jup_nj _ _ (by omega), jup_nj _ _ (by omega), eJ4 8 (by omega) (by omega)]; exact t2, by rw [jup_nj _ _ (by omega), jup_q, ju1_eq, hPL]; rfl, fun i hi => by rw [jup_nj _ _ (by omega), jup_nj _ _ (by omega), eJ 169 (by omega), eF1 169 (by omega) (by omega) (by omega) (by omega) (by omega)]; exact (hby i hi).2.2⟩ (by rw [jup_q, ju1_eq])
    obtain ⟨J4, hJ4⟩ : ∃ J4, J4 = jup J3 164 8 0 := ⟨_, rfl⟩
    have eF : ∀ r, r ≠ 164 → r ≠ 165 → J4 r = F1 r := fun r h1 h2 => by
      rw [hJ4, jup_ne _ _ h1]
      funext k
      rw [c3 r k h2 (by omega), jup_ne _ _ h1, jup_ne _ _ h1, eJ r h1]
    have h165 : J4 165 = m' := by rw [hJ4, jup_ne _ _ (by omega)]; exact c2
    refine ⟨v, F1, J4, ?_, ?_, cnt, mode, T', S, GG.mono (h.tape2 (F := J4) (B' := B + 64 * (K - 1 + 1)) ?_ (by omega) (fun r hr => by rw [eF r (by omega) (by omega), eF1 r (by omega) (by omega) (by omega) (by omega) (by omega)]) ?_ ⟨0, by omega, ?_, ?_, fun i hi => by omega⟩ (fun e he => ?_)) (by omega)⟩
    · rw [cC, f1, jb2_some, jlet_d, ← hI4, if_pos rfl]
      exact a1
    · unfold X7_traffic
      rw [parts_e, p1, jb2_some, p2, if_pos (by decide), parts_e, c1, jb2_some, jlet_d, ← hJ4]
    · rw [h165]
      exact a3.congr (fun r a b => eF r (by omega) (by omega)) (fun _ _ => rfl)
    · rw [hJ4, jup_nj _ _ (by omega), c3 164 3 (by omega) (by omega), jup_nj _ _ (by omega), jup_nj _ _ (by omega), eJ4 3 (by omega) (by omega)]
    · rw [eF 140 (by omega) (by omega), a4 140 (by omega), hI4, jup_q, ju1_eq]; rfl
    · rw [hJ4, jup_q, ju1_eq]; rfl
    · rw [eF 146 (by omega) (by omega), eF 168 (by omega) (by omega), eF1 146 (by omega) (by omega) (by omega) (by omega) (by omega), eF1 168 (by omega) (by omega) (by omega) (by omega) (by omega)]
      exact h.2.2.2.2 e he
end TQ
