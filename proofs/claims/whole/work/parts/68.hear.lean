/-! A ROW that is told: on both sides -/
abbrev okV (v : Int64) : Prop := 0 ≤ v.toInt ∧ v.toInt < 64
theorem lt64i (x y : Int64) : (x < y) = (x.toInt < y.toInt) := propext Int64.lt_iff_toInt_lt
theorem clt0 {v : Int64} : (lg_cmp v 0 < 0) ↔ v.toInt < 0 := by
  rw [cmp_lt, lt64i]; rfl
theorem clt64 {v : Int64} : (lg_cmp v 64 < 0) ↔ v.toInt < 64 := by
  rw [cmp_lt, lt64i]; rfl
theorem okV_page {v : Int64} : X7_isPage v = some (if okV v then 1 else 0) := by
  unfold X7_isPage X7_isIn
  simp only [cmp_lt, cmp_gt, lt64i]
  rw [show (0 : Int64).toInt = 0 from rfl, show (63 : Int64).toInt = 63 from rfl]
  by_cases h1 : v.toInt < 0
  · rw [if_pos h1, if_neg (fun h : okV v => by have := h.1; omega)]; rfl
  · rw [if_neg h1]
    by_cases h2 : 63 < v.toInt
    · rw [if_pos h2, if_neg (fun h : okV v => by have := h.2; omega)]; rfl
    · rw [if_neg h2, if_pos (show okV v from ⟨by omega, by omega⟩)]; rfl
theorem okV_nat {v : Int64} (h : okV v) : ∃ p, p < 64 ∧ v.toInt32 = nI p ∧ v = (nI p).toInt64 := by
  obtain ⟨h1, h2⟩ := h
  refine ⟨v.toInt.toNat, by omega, ?_, ?_⟩
  · apply Int32.toInt_inj.mp
    rw [Int64.toInt_toInt32, nI_toInt (by omega)]
    unfold Int.bmod
    dsimp only
    split <;> omega
  · apply Int64.toInt_inj.mp
    rw [Int32.toInt_toInt64, nI_toInt (by omega)]
    omega
section HR
variable {B cnt mode T : Nat} {S : Nat → Nat} {I : jI} {L : jL}
theorem elemC {s n i : Nat} (hs : s < 8) (hn : n ≤ 40) (hI : I (148 + 2 * s) 2 = nI n) (hi : i < n) : X3_elementAt (148 + 2 * s) (nI i) I L = some (L (149 + 2 * s) i) := by
  unfold X3_elementAt
  rcases hasEl_c (s := s) hn hI (nI i) with ⟨-, q2⟩ | ⟨k, -, -, q, -⟩
  · rw [wi_y (nI i) 0 _ rfl (by omega) (by rw [show (0 : Int32).toInt = 0 from rfl]; omega) (by rw [sub1_int (by omega)]; omega)] at q2
    exact absurd (Option.some.inj q2) (by decide)
  · rw [q, ob_some, if_neg (by decide), if_pos (jin_N (by omega) (by omega)), (rS s hs).2, cl_N (by omega)]
theorem listen_key {s z st N : Nat} (hs : s < 8) (hz : z ≤ 40) (hst : st = 1 ∨ st = 2) (hN : N * st ≤ z) (hel : ∀ i, i < 40 → L (149 + 2 * s) i = L 172 (40 * s + i)) (k16 : Int32 → Option Int32) : ∀ d n i (I : jI), I (148 + 2 * s) 2 = nI z → i + d = N → d < n →
    ∃ r I', jfx (X6_listen_F1 1 (nI N) (nI st) L (148 + 2 * s)) (fun _ _ => none) n (nI i) I = some (r, I') ∧ (∀ q, q ≠ 147 → I' q = I q) ∧ (∀ j, j < i → I' 147 j = I 147 j) ∧
      ((r = 0 ∧ (∀ j, i ≤ j → j < N → okV (L 172 (40 * s + st * j)) ∧ I' 147 j = (L 172 (40 * s + st * j)).toInt32) ∧ jfx (X7_wrongRow_F1 164 (nI s) (nI N) L (nI st) k16) (fun _ _ => none) n 1 (nI i) = k16 1) ∨
       (r = -52 ∧ jfx (X7_wrongRow_F1 164 (nI s) (nI N) L (nI st) k16) (fun _ _ => none) n 1 (nI i) = k16 0)) := by
  intro d
  induction d with
  | zero =>
    intro n i I hI h1 h2
    obtain ⟨n, rfl⟩ : ∃ q, n = q + 1 := ⟨n - 1, by omega⟩
    have hN2 : N ≤ 40 := by rcases hst with rfl | rfl <;> omega
    refine ⟨0, I, ?_, fun _ _ => rfl, fun _ _ => rfl, Or.inl ⟨rfl, fun j a b => by omega, ?_⟩⟩
    · rw [jfx_s, X6_listen_F1, if_pos (nI_le (by omega) (by omega))]
    · rw [jfx_s, X7_wrongRow_F1, if_pos (nI_le (by omega) (by omega))]
  | succ d ih =>
    intro n i I hI h1 h2
    obtain ⟨n, rfl⟩ : ∃ q, n = q + 1 := ⟨n - 1, by omega⟩
    have hN2 : N ≤ 40 := by rcases hst with rfl | rfl <;> omega
    have hst1 : i * st < z := by rcases hst with rfl | rfl <;> omega
    have hst2 : st * i < 40 := by rw [Nat.mul_comm]; omega
    have he : X3_elementAt (148 + 2 * s) (nI i * nI st) I L = some (L 172 (40 * s + st * i)) := by
      rw [pk_mul, elemC hs hz hI hst1, hel _ (by omega), Nat.mul_comm i st]
    have eM : jfx (X7_wrongRow_F1 164 (nI s) (nI N) L (nI st) k16) (fun _ _ => none) (n + 1) 1 (nI i) = jfx (X7_wrongRow_F1 164 (nI s) (nI N) L (nI st) k16) (fun _ _ => none) n (if okV (L 172 (40 * s + st * i)) then 1 else 0) (nI (i + 1)) := by
      rw [jfx_s, X7_wrongRow_F1, if_neg (nI_ge (by omega) (by omega)), if_neg (by decide), pk_mul, forty, if_pos (jin_N (by omega) (by omega)), rMM.2.2.2.2.1, cl_N (by omega), okV_page, ob_some, show nI i + (1 : Int32) = nI (i + 1) from nI_1 _]
    rw [eM]
    by_cases ok : okV (L 172 (40 * s + st * i))
    · obtain ⟨r, I', a1, a2, a3, a4⟩ := ih n (i + 1) (jup I 147 i (L 172 (40 * s + st * i)).toInt32) (by rw [jup_ne _ _ (by omega)]; exact hI) (by omega) (by omega)
      refine ⟨r, I', ?_, fun q hq => by rw [a2 q hq, jup_ne _ _ hq], fun j hj => by rw [a3 j (by omega), jup_q, ju1_ne _ _ (by omega)], ?_⟩
      · rw [jfx_s, X6_listen_F1, if_neg (nI_ge (by omega) (by omega)), if_neg (lge (40 : Int32) 40 rfl (by omega) (by omega)), he, ob_some, if_neg (fun z => by have := clt0.mp z; have := ok.1; omega), if_pos (clt64.mpr ok.2), if_pos (jin_N (by omega) (by omega)), jlet_d, rT.2.2.2.1, cl_N (by omega), show nI i + (1 : Int32) = nI (i + 1) from nI_1 _]
        exact a1
      · rw [if_pos ok]
        rcases a4 with ⟨b1, b2, b3⟩ | ⟨b1, b3⟩
        · refine Or.inl ⟨b1, fun j c1 c2 => ?_, b3⟩
          by_cases e : j = i
          · subst e
            exact ⟨ok, by rw [a3 j (by omega), jup_q, ju1_eq]⟩
          · exact b2 j (by omega) c2
        · exact Or.inr ⟨b1, b3⟩
    · refine ⟨-52, I, ?_, fun _ _ => rfl, fun _ _ => rfl, Or.inr ⟨rfl, ?_⟩⟩
      · rw [jfx_s, X6_listen_F1, if_neg (nI_ge (by omega) (by omega)), if_neg (lge (40 : Int32) 40 rfl (by omega) (by omega)), he, ob_some]
        by_cases c : (L 172 (40 * s + st * i)).toInt < 0
        · rw [if_pos (clt0.mpr c)]
        · rw [if_neg (fun z => c (clt0.mp z)), if_neg (fun z => ok ⟨by omega, clt64.mp z⟩)]
      · rw [if_neg ok]
        by_cases hn : n = 0
        · omega
        · obtain ⟨n, rfl⟩ : ∃ q, n = q + 1 := ⟨n - 1, by omega⟩
          rw [jfx_s, X7_wrongRow_F1]
          by_cases e : i + 1 = N
          · rw [if_pos (nI_le (by omega) (by omega))]
          · rw [if_neg (nI_ge (by omega) (by omega)), if_pos rfl]
def TOLD (I : jI) (L : jL) (s st N : Nat) (pg : Nat → Nat) : Prop := ∀ j, j < N → pg j < 64 ∧ I 147 j = nI (pg j) ∧ (L 172 (40 * s + st * j)).toInt32 = nI (pg j) ∧ L 172 (40 * s + st * j) = (nI (pg j)).toInt64
theorem UN.of147 {I I' : jI} (h : ∀ q, q ≠ 147 → I' q = I q) : UN I I' := ⟨fun r k hr => by rw [h r (by omega)], fun r k a b => by rw [h r (by omega)], fun i _ => by rw [h 165 (by omega)]⟩
/-- listening, on both sides; st: every how manyth element -/
theorem listen_c (h : GG B cnt mode T S I L) (x : Int32) {st N : Nat} {mx : Int32} {M : Nat} (hmx : mx = nI M) (hst : (st = 1 ∧ M = 40) ∨ (st = 2 ∧ M = 20)) (hN : N ≤ M) :
    ∃ r I9, X6_listen 1 x (nI N) (nI st) I L = some (r, I9) ∧ (∀ q, q ≠ 147 → I9 q = I q) ∧ (∀ J : jI, J 170 = I 170 → J 171 = I 171 → X7_wrongRow 164 x (nI N) mx J L = some r) ∧
      ((r = -52 ∨ r = -53 ∨ r = -54) ∨ (r = 0 ∧ ∃ s z pg, s < 8 ∧ x = nI s ∧ z ≤ 40 ∧ N * st ≤ z ∧ I (148 + 2 * s) 2 = nI z ∧ (∀ i, i < 40 → L (149 + 2 * s) i = L 172 (40 * s + i)) ∧ TOLD I9 L s st N pg)) := by
  have hc4 := h.1.1.1
  have hM : M ≤ 40 := by rcases hst with ⟨-, rfl⟩ | ⟨-, rfl⟩ <;> omega
  have hin : X6_isWithin (nI N) 0 mx = some 1 := wi_y _ _ _ rfl (by omega) (by rw [show (0 : Int32).toInt = 0 from rfl]; omega) (by rw [hmx, nI_toInt (by omega)]; omega)
  rcases shelf_c x with ⟨e1, e2⟩ | ⟨s, hs, rfl, e1, e2⟩
  · refine ⟨-52, I, ?_, fun _ _ => rfl, fun J _ _ => ?_, Or.inl (Or.inl rfl)⟩
    · unfold X6_listen
      rw [e1, ob_some]
      unfold X6_rowRefusal
      rw [if_pos rfl, ob_some, if_pos rfl]
    · unfold X7_wrongRow
      rw [e2, ob_some, if_pos rfl]
  · have hn0 : ¬ (148 + 2 * s = 0) := by omega
    have hj : jin (nI s) 8 := jin_N hs (by omega)
    rcases sh_c hs (h.2.1 s hs) hc4 with ⟨-, -, rr, am, -⟩ | ⟨l, -, -, -, rr, am, -⟩ | ⟨k, z, hk, hz, -, -, rr, am, sz, so, hh, hsz, hel⟩
    · refine ⟨-54, I, ?_, fun _ _ => rfl, fun J hJ _ => ?_, Or.inl (Or.inr (Or.inr rfl))⟩
      · unfold X6_listen
        rw [e1, ob_some, rr, ob_some, if_neg hn0, if_neg (by decide)]
      · unfold X7_wrongRow
        rw [e2, ob_some, if_neg (by decide), within_e _ 0 mx 0 _ rfl rfl, hin, ob_some, if_neg (by decide), am J hJ, ob_some, if_neg (by decide)]
    · refine ⟨-53, I, ?_, fun _ _ => rfl, fun J hJ _ => ?_, Or.inl (Or.inr (Or.inl rfl))⟩
      · unfold X6_listen
        rw [e1, ob_some, rr, ob_some, if_neg hn0, if_neg (by decide)]
      · unfold X7_wrongRow
        rw [e2, ob_some, if_neg (by decide), within_e _ 0 mx 0 _ rfl rfl, hin, ob_some, if_neg (by decide), am J hJ, ob_some, if_neg (by decide)]
    · have hst' : st = 1 ∨ st = 2 := by omega
      have hy11 : (if mx = (20 : Int32) then (2 : Int32) else (1 : Int32)) = nI st := by
        rcases hst with ⟨rfl, rfl⟩ | ⟨rfl, rfl⟩
        · rw [hmx, if_neg (by decide)]; rfl
        · rw [hmx, if_pos (by decide)]; rfl
      have hNst : N * st ≤ 40 := by rcases hst with ⟨rfl, rfl⟩ | ⟨rfl, rfl⟩ <;> omega
      by_cases hle : N * st ≤ z
      · obtain ⟨r, I', a1, a2, -, a4⟩ := listen_key hs hz hst' hle hel (fun (v15 : Int32) => if v15 = 0 then some (-52 : Int32) else some (0 : Int32)) N 1000 0 I sz (by omega) (by omega)
        have cC : X6_listen 1 (nI s) (nI N) (nI st) I L = some (r, I') := by
          unfold X6_listen
          rw [e1, ob_some, rr, ob_some, if_neg hn0, if_pos rfl, hasEls hz sz, pk_mul, if_pos ⟨by rw [show (0 : Int32).toInt = 0 from rfl]; omega, by rw [nI_toInt (by omega)]; omega, by rw [nI_toInt (by omega), show (0 : Int32).toInt = 0 from rfl]; omega⟩, ob_some, if_neg (by decide)]
          exact a1
        have cM : ∀ J : jI, J 170 = I 170 → J 171 = I 171 → X7_wrongRow 164 (nI s) (nI N) mx J L = jfx (X7_wrongRow_F1 164 (nI s) (nI N) L (nI st) (fun (v15 : Int32) => if v15 = 0 then some (-52 : Int32) else some (0 : Int32))) (fun _ _ => none) 1000 1 (nI 0) := fun J hJ hJ2 => by
          unfold X7_wrongRow
          rw [e2, ob_some, if_neg (by decide), within_e _ 0 mx 0 _ rfl rfl, hin, ob_some, if_neg (by decide), am J hJ, ob_some, if_pos rfl, hy11, jlet_d, if_pos hj, rMM.2.2.2.1, cl_N (by omega), hJ2, hsz, pk_mul, if_neg (nI_nlt (by rw [Nat.mul_comm]; omega) (by omega)), jlet_d, jlet_d, n00]
        rcases a4 with ⟨rfl, b2, b3⟩ | ⟨rfl, b3⟩
        · refine ⟨0, I', cC, a2, fun J hJ hJ2 => by rw [cM J hJ hJ2, b3]; rfl, Or.inr ⟨rfl, s, z, fun j => (L 172 (40 * s + st * j)).toInt.toNat, hs, rfl, hz, hle, sz, hel, fun j hj => ?_⟩⟩
          obtain ⟨c1, c2⟩ := b2 j (by omega) hj
          obtain ⟨p, p1, p2, p3⟩ := okV_nat c1
          have hp : (L 172 (40 * s + st * j)).toInt.toNat = p := by
            have := congrArg Int64.toInt p3
            rw [Int32.toInt_toInt64, nI_toInt (by omega)] at this
            omega
          simp only [hp]
          exact ⟨p1, by rw [c2, p2], p2, p3⟩
        · exact ⟨-52, I', cC, a2, fun J hJ hJ2 => by rw [cM J hJ hJ2, b3]; rfl, Or.inl (Or.inl rfl)⟩
      · refine ⟨-52, I, ?_, fun _ _ => rfl, fun J hJ hJ2 => ?_, Or.inl (Or.inl rfl)⟩
        · unfold X6_listen
          rw [e1, ob_some, rr, ob_some, if_neg hn0, if_pos rfl, hasEls hz sz, pk_mul, if_neg (fun q => by have := q.2.2; rw [nI_toInt (by omega), show (0 : Int32).toInt = 0 from rfl] at this; omega), ob_some, if_pos rfl]
        · unfold X7_wrongRow
          rw [e2, ob_some, if_neg (by decide), within_e _ 0 mx 0 _ rfl rfl, hin, ob_some, if_neg (by decide), am J hJ, ob_some, if_pos rfl, hy11, jlet_d, if_pos hj, rMM.2.2.2.1, cl_N (by omega), hJ2, hsz, pk_mul, if_pos (nI_lt (by rw [Nat.mul_comm]; omega) (by rw [Nat.mul_comm]; omega)), jlet_d, jlet_d, show (1000 : Nat) = 999 + 1 from rfl, jfx_s, X7_wrongRow_F1]
          split
          · rfl
          · rw [if_pos rfl]; rfl
/-- hearing a row of pages -/
theorem hear_c (h : GG B cnt mode T S I L) (x y f : Int32) (hf : f = 0 ∨ f = 1) :
    (∃ r I1 I2, ¬ r = 0 ∧ X6_hear 1 x y f I L = some (r, I1) ∧ (∀ q, q ≠ 147 → q ≠ 146 → I1 q = I q) ∧ X7_refuses 164 r I1 = some (r, I2) ∧ GG B cnt mode T S I2 L ∧ (f = 0 → r = -52) ∧ (f = 1 → X7_wrongRow 164 x y 40 I1 L = some r)) ∨
    (f = 1 ∧ ∃ s z N pg I9, s < 8 ∧ x = nI s ∧ y = nI N ∧ N ≤ z ∧ z ≤ 40 ∧ X6_hear 1 x y f I L = some (0, I9) ∧ (∀ q, q ≠ 147 → I9 q = I q) ∧ TOLD I9 L s 1 N pg ∧ GG B cnt mode T S I9 L ∧ ∀ J : jI, J 170 = I 170 → J 171 = I 171 → X7_wrongRow 164 x y 40 J L = some 0) := by
  have ref : ∀ (r : Int32) (I9 : jI) (e : Nat), e < 5 → (-52 : Int32) - r = nI e → ¬ r = 0 → (∀ q, q ≠ 147 → I9 q = I q) → X6_hear 1 x y f I L = X6_refuse 1 r I9 → (f = 0 → r = -52) → (f = 1 → ∀ J : jI, J 170 = I 170 → J 171 = I 171 → X7_wrongRow 164 x y 40 J L = some r) → ∃ r I1 I2, ¬ r = 0 ∧ X6_hear 1 x y f I L = some (r, I1) ∧ (∀ q, q ≠ 147 → q ≠ 146 → I1 q = I q) ∧ X7_refuses 164 r I1 = some (r, I2) ∧ GG B cnt mode T S I2 L ∧ (f = 0 → r = -52) ∧ (f = 1 → X7_wrongRow 164 x y 40 I1 L = some r) := by
    intro r I9 e he hx h0 h9 hr hf0 hf1
    obtain ⟨I1, I2, a, b, g⟩ := rf_both (h.un (UN.of147 h9)) e he r hx
    have hI1 : ∀ q, q ≠ 147 → q ≠ 146 → I1 q = I q := fun q hq hq2 => by
      rw [refuse_c e he r hx I9] at a
      have := (Prod.mk.inj (Option.some.inj a)).2
      rw [← this, rT.2.2.1, jup_ne _ _ hq2, h9 q hq]
    exact ⟨r, I1, I2, h0, hr.trans a, hI1, b, g, hf0, fun z => hf1 z I1 (hI1 _ (by omega) (by omega)) (hI1 _ (by omega) (by omega))⟩
  rcases hf with rfl | rfl
  · left
    refine ref (-52) I 0 (by omega) rx0 (by decide) (fun _ _ => rfl) ?_ (fun _ => rfl) (fun z => absurd z (by decide))
    unfold X6_hear
    rw [if_pos rfl]
    exact jb2_id _
  · rcases wi_c y 0 40 0 40 rfl rfl with hy | ⟨hy, N, -, hN, -, rfl⟩
    · left
      refine ref (-52) I 0 (by omega) rx0 (by decide) (fun _ _ => rfl) ?_ (fun z => absurd z (by decide)) (fun _ J _ _ => ?_)
      · unfold X6_hear
        rw [if_neg (by decide), hy, ob_some, if_pos rfl]
        exact jb2_id _
      · unfold X7_wrongRow
        rcases shelf_c x with ⟨-, e2⟩ | ⟨s, -, rfl, -, e2⟩
        · rw [e2, ob_some, if_pos rfl]
        · rw [e2, ob_some, if_neg (by decide), within_e _ 0 40 0 _ rfl rfl, hy, ob_some, if_pos rfl]
    · obtain ⟨r, I9, l1, l2, l3, l4⟩ := listen_c h x (st := 1) (N := N) (mx := 40) (M := 40) rfl (Or.inl ⟨rfl, rfl⟩) (by omega)
      have hr : X6_hear 1 x (nI N) 1 I L = if r = 0 then some (0, I9) else X6_refuse 1 r I9 := by
        unfold X6_hear
        rw [if_neg (by decide), hy, ob_some, if_neg (by decide), show X6_listen 1 x (nI N) 1 I L = some (r, I9) from l1, jb2_some]
        by_cases e : r = 0
        · rw [if_pos e, if_pos e]
        · rw [if_neg e, if_neg e]; exact jb2_id _
      rcases l4 with (rfl | rfl | rfl) | ⟨rfl, s, z, pg, hs, rfl, hz, hNz, -, -, ht⟩
      · exact Or.inl (ref (-52) I9 0 (by omega) rx0 (by decide) l2 (by rw [hr, if_neg (by decide)]) (fun z => absurd z (by decide)) (fun _ => l3))
      · exact Or.inl (ref (-53) I9 1 (by omega) rx1 (by decide) l2 (by rw [hr, if_neg (by decide)]) (fun z => absurd z (by decide)) (fun _ => l3))
      · exact Or.inl (ref (-54) I9 2 (by omega) rx2 (by decide) l2 (by rw [hr, if_neg (by decide)]) (fun z => absurd z (by decide)) (fun _ => l3))
      · exact Or.inr ⟨rfl, s, z, N, pg, I9, hs, rfl, rfl, by omega, hz, by rw [hr, if_pos rfl], l2, ht, h.un (UN.of147 l2), l3⟩
end HR
