/-! THE CORE of a store, and placings within it -/
def CORE (B o cnt mode T : Nat) (S : Nat → Nat) (I : jI) (m : Mn) : Prop :=
  (cnt ≤ 4 ∧ mode ≤ 2 ∧ T ≤ B ∧ 1 ≤ B) ∧ STH o cnt mode T I m ∧ (∀ j, j < cnt → LR B (o + 10 + 9 * j) I m j (S j)) ∧ SD B o I m ∧ (mode = 2 → EXF m cnt 0)
theorem CORE.mono {B B' o cnt mode T : Nat} {S : Nat → Nat} {I : jI} {m : Mn} (h : CORE B o cnt mode T S I m) (hB : B ≤ B') : CORE B' o cnt mode T S I m := by
  obtain ⟨⟨a, b, c, d⟩, e, f, g, i⟩ := h
  exact ⟨⟨a, b, by omega, by omega⟩, e, fun j hj => (f j hj).mono hB, g.mono hB, i⟩
theorem place_core {B o cnt mode T l p : Nat} {S : Nat → Nat} (ho : OB o) {I : jI} {m : Mn} (h : CORE B o cnt mode T S I m) (hl : l < cnt) (hp : p < 64) (hn : ¬ inL m l p) (hn2 : mode = 2 → ∀ l', l' < cnt → ¬ inL m l' p) {v d : Int32} (hd : d = 0 ∨ d = 1) (hB : B + 4 < 1073741824) :
    ∃ I' m', X4_placeInto 10 o (nI (l + 1)) (nI p) v d I = some I' ∧ (∀ J : jI, J 165 = m → X7_places 10 164 (nI l) (nI p) v d J = some (jrow J 165 m')) ∧ CORE (B + 4) o cnt mode T S I' m' ∧ KP o I I' ∧ KM m m' ∧
      (mode ≠ 2 → ∀ l' q, l' < cnt → q < 64 → inL m' l' q → inL m l' q ∨ (l' = l ∧ q = p)) := by
  obtain ⟨⟨hc4, hmode, hTB, hB1⟩, hH, hL, hD, hex⟩ := h
  obtain ⟨r, hr⟩ : ∃ r, l + r + 1 = cnt := ⟨cnt - l - 1, by omega⟩
  obtain ⟨I', m', e1, e2, e3, e4, e5, e6, e7, e8, e9⟩ := place_ok (T := T) (S := S) ho hc4 hmode r 10 l hr (by omega) p v d I m B 0 hH hTB hB1 (by omega) (fun _ => rfl) (by omega) (fun j _ hj => hL j hj) hD hp hn hd (fun h2 => ⟨fun l1 l2 q a1 a2 a3 a4 => hex h2 l1 l2 q (by omega) a2 a3 a4, fun l' _ h => hn2 h2 l' h⟩)
  refine ⟨I', m', e1, e2, ⟨⟨hc4, hmode, by omega, by omega⟩, hH.keep (fun j h1 h2 => e5 o j (by omega)) (fun i h1 h2 h3 h4 => e6 i (by omega)), fun j hj => (e3 j (by omega) hj).mono (by omega), e4.mono (by omega), fun h2 => ?_⟩, e5, e6, e9⟩
  obtain ⟨x1, x2⟩ := e8 h2
  have hKN := e7 (by omega)
  have hnear : ∀ l' q, l' < l → inL m' l' q → inL m l' q := fun l' q h1 h3 => h3.of (fun k hk => hKN.2 _ (by omega) (by omega))
  intro l1 l2 q a1 a2 a3 a4 a5 a6
  by_cases c1 : l ≤ l1
  · exact x1 l1 l2 q c1 a2 a3 a4 a5 a6
  · have b5 := hnear l1 q (by omega) a5
    by_cases c2 : l ≤ l2
    · rcases x2 l2 q c2 a3 a4 a6 with z | ⟨l3, z1, z2, z3⟩
      · subst z; exact hn2 h2 l1 (by omega) b5
      · exact hex h2 l1 l3 q (by omega) (by omega) z2 a4 b5 z3
    · exact hex h2 l1 l2 q a1 a2 a3 a4 b5 (hnear l2 q (by omega) a6)
theorem sub1 (x : Int32) : x + (-1) = x - 1 := by
  rw [Int32.sub_eq_add_neg]
theorem holdF {B o cnt mode T p : Nat} {S : Nat → Nat} (ho : OB o) (hp : p < 64) (hm2 : mode ≠ 2) (g : Int32) : ∀ i n (B : Nat) (I : jI) (m : Mn), CORE B o cnt mode T S I m → i ≤ cnt → i < n → (∀ l, l < i → ¬ inL m l p) → B + 4 * i < 1073741824 → I o 17 = g →
    ∃ I' m', (∀ k, jfx (X4_access_F2 o (nI p) 0 k) (fun _ _ => none) n (nI i) I = k I') ∧ (∀ J : jI, J 165 = m → ∀ kM, jfx (X7_looks_F1 164 (nI p) g kM) (fun _ _ => none) n (nI i - 1) J = kM (jrow J 165 m')) ∧ CORE (B + 4 * i) o cnt mode T S I' m' ∧ KP o I I' ∧ KM m m' := by
  intro i
  induction i with
  | zero =>
    intro n B I m h h1 h2 h3 h4 h5
    obtain ⟨n, rfl⟩ : ∃ q, n = q + 1 := ⟨n - 1, by omega⟩
    refine ⟨I, m, fun k => ?_, fun J hJ kM => ?_, h, KP.rf, KM.rf⟩
    · rw [jfx_s, X4_access_F2, if_pos (show nI 0 < (1 : Int32) by decide)]
    · rw [jfx_s, X7_looks_F1, if_pos (show nI 0 - (1 : Int32) < 0 by decide), ← hJ, jrow_id]
  | succ i ih =>
    intro n B I m h h1 h2 h3 h4 h5
    obtain ⟨n, rfl⟩ : ∃ q, n = q + 1 := ⟨n - 1, by omega⟩
    obtain ⟨I1, m1, e1, e2, e3, e4, e5, e6⟩ := place_core (p := p) (v := g) (d := 0) ho h (l := i) (by omega) hp (h3 i (by omega)) (fun h => absurd h hm2) (Or.inl rfl) (by omega)
    obtain ⟨I', m', f1, f2, f3, f4, f5⟩ := ih n (B + 4) I1 m1 e3 (by omega) (by omega) (fun l hl hin => by
      rcases e6 hm2 l p (by have := h.1.1; omega) hp hin with z | ⟨z, -⟩
      · exact h3 l (by omega) z
      · omega) (by omega) (by rw [e4 o 17 (by omega)]; exact h5)
    obtain ⟨-, -, hm4⟩ := h.2.1.2
    refine ⟨I', m', fun k => ?_, fun J hJ kM => ?_, f3.mono (by omega), e4.tr f4, e5.tr f5⟩
    · rw [jfx_s, X4_access_F2, if_neg (show ¬ nI (i + 1) < (1 : Int32) from lnlt (1 : Int32) 1 rfl (by omega) (by omega)), h5, e1, ob_some, pk_m1]
      exact f1 k
    · rw [show nI (i + 1) - (1 : Int32) = nI i from nI_pred i, jfx_s, X7_looks_F1, if_neg (nI_pos (by omega)), if_pos (by decide), rM0, show ((689 : Int32)).toNatClampNeg = 689 from rfl, hJ, hm4.1, if_neg (nI_cne (x := (2 : Int32)) (b := 2) rfl (by have := h.1.2.1; omega) (by omega) hm2), e2 J hJ, ob_some, sub1, f2 _ (jrow_self _ _ _) kM, jrow_jrow]
/-- THE PLACINGS after a look -/
theorem hold_sim {B o cnt mode T p : Nat} {S : Nat → Nat} (ho : OB o) {I : jI} {m : Mn} {j cost fr : Nat} {g dd : Int32} {I3 I6 : jI} {mA : Mn} (hp : p < 64) (hB : B + 17 < 1073741824) (h0 : cnt ≤ 4 ∧ mode ≤ 2 ∧ T ≤ B ∧ 1 ≤ B) (h : LAB B o cnt mode T p S I m j cost fr g dd I3 I6 mA) :
    ∃ y8 I7 mB, X4_farthestToHold o I6 = some y8 ∧ (∀ k, jfx (X4_access_F2 o (nI p) dd k) (fun _ _ => none) 1000 y8 I6 = k I7) ∧ (∀ J : jI, J 165 = m → X7_looks 164 (nI p) J = some (g, Nf J (nI cost) (nI fr) (ju1 mB 698 (mB 698 + nI cost)))) ∧ CORE (B + 17) o cnt mode (T + 1) S I7 mB ∧ KP o I6 I7 ∧ KM mA mB := by
  obtain ⟨⟨hj, hcost, hfr, hdd, hdd0⟩, -, hleave, hlook, ⟨h16, h17⟩, hL, hH, hD, hex, hn1, hn2, hfrm, -⟩ := h
  obtain ⟨hc4, hmode, hTB, hB1⟩ := h0
  have hC : CORE (B + 1) o cnt mode (T + 1) S I6 mA := ⟨⟨hc4, hmode, by omega, by omega⟩, hH, hL, hD, hex⟩
  obtain ⟨hcI, hcm, ho4, hm4, -⟩ := id hH
  have hfar : (if (I6 o 16) = 0 then (I6 o 1) else ((I6 o 16) - (1 : Int32))) = nI j := by
    rw [h16, hcI, hfr]
    by_cases e : j < cnt
    · rw [if_pos e, if_neg (nI_ne0 (by omega) (by omega)), nI_pred]
    · rw [if_neg e, if_pos (show nI 0 = (0 : Int32) from rfl), show j = cnt by omega]
  have kA : ∀ (J : jI) (mB : Mn) (n : Nat), (∀ kM, jfx (X7_looks_F1 164 (nI p) g kM) (fun _ _ => none) 1000 (nI j - 1) J = kM (Nf J (nI cost) (nI fr) mB)) → jlet ((nI j - (1 : Int32))) (fun (y26 : Int32) =>
      jlet (fun (I27 : jI) =>
      if jin (698 : Int32) 784 then (
      if jin (698 : Int32) 784 then jlet (jup I27 (rfC 164 0) ((698 : Int32)).toNatClampNeg ((I27 (rfC 164 0) ((698 : Int32)).toNatClampNeg) + (I27 164 5))) (fun (I31 : jI) =>
      some (g, I31)) else none) else none) (fun (k28 : jI → Option (Int32 × jI)) =>
      jfx (X7_looks_F1 164 (nI p) g k28) (fun _ _ => none) 1000 y26 J)) = some (g, Nf J (nI cost) (nI fr) (ju1 mB 698 (mB 698 + nI cost))) := fun J mB n hk => by
    rw [jlet_d, jlet_d, hk, if_pos (by decide), if_pos (by decide), jlet_d, rM0, show ((698 : Int32)).toNatClampNeg = 698 from rfl, Nf_165, Nf_5, Nf_up]
  by_cases h2 : mode = 2
  · have hm42 : mA 689 = (2 : Int32) := by rw [hm4, h2]; rfl
    have hK : ∀ (J : jI) (mB : Mn), J 165 = mB → mB 689 = (2 : Int32) → ∀ kM, jfx (X7_looks_F1 164 (nI p) g kM) (fun _ _ => none) 1000 (nI j - 1) J = kM J := fun J mB hJ hmB kM => by
      rw [show (1000 : Nat) = 999 + 1 from rfl, jfx_s, X7_looks_F1, rM0, show ((689 : Int32)).toNatClampNeg = 689 from rfl, hJ, hmB]
      by_cases c : nI j - 1 < 0
      · rw [if_pos c]
      · rw [if_neg c, if_pos (by decide), if_pos rfl]
    by_cases hj0 : j = 0
    · refine ⟨nI 0, I6, mA, ?_, fun k => ?_, fun J hJ => ?_, hC.mono (by omega), KP.rf, KM.rf⟩
      · unfold X4_farthestToHold
        rw [hfar, jlet_d, ho4, if_pos (by rw [h2]; rfl), hj0]
        rfl
      · rw [show (1000 : Nat) = 999 + 1 from rfl, jfx_s, X4_access_F2, if_pos (show nI 0 < (1 : Int32) by decide)]
      · obtain ⟨v20, -, e⟩ := hlook J hJ
        rw [e]
        unfold tailM
        rw [if_pos (by decide), jlet_d, rM0, show ((689 : Int32)).toNatClampNeg = 689 from rfl, Nf_165, if_pos hm42, if_pos (by rw [hj0]; decide)]
        rw [← rM0]
        refine (kA (Nf J (nI cost) (nI fr) mA) mA 0 (fun kM => ?_)).trans (by rw [Nf_Nf])
        rw [hK _ mA Nf_165 hm42, Nf_Nf]
    · have hcnt0 : 0 < cnt := by omega
      obtain ⟨I7, mB, e1, e2, e3, e4, e5, e6⟩ := place_core (p := p) (v := g) (d := dd) ho hC (l := 0) hcnt0 hp (hn2 h2 (by omega) 0 hcnt0) (fun h => hn2 h2 (by omega)) hdd (by omega)
      refine ⟨nI 1, I7, mB, ?_, fun k => ?_, fun J hJ => ?_, e3.mono (by omega), e4, e5⟩
      · unfold X4_farthestToHold
        rw [hfar, jlet_d, ho4, if_pos (by rw [h2]; rfl)]
        have : j = 1 ∨ j = 2 ∨ j = 3 ∨ j = 4 := by omega
        rcases this with e | e | e | e <;> rw [e] <;> rfl
      · rw [show (1000 : Nat) = 998 + 1 + 1 from rfl, jfx_s, X4_access_F2, if_neg (show ¬ nI 1 < (1 : Int32) by decide), h17]
        show (X4_placeInto 10 o (nI (0 + 1)) (nI p) g dd I6).bind _ = _
        rw [e1, ob_some, show nI 1 + (-1 : Int32) = nI 0 from pk_m1 0, jfx_s, X4_access_F2, if_pos (show nI 0 < (1 : Int32) by decide)]
      · obtain ⟨v20, hv, e⟩ := hlook J hJ
        rw [e, hv h2 (by omega)]
        unfold tailM
        rw [if_pos (by decide), jlet_d, rM0, show ((689 : Int32)).toNatClampNeg = 689 from rfl, Nf_165, if_pos hm42, if_neg (by rw [le0_N (by omega)]; exact hj0)]
        show (X7_places 10 164 (nI 0) (nI p) g dd _).bind _ = _
        rw [e2 _ Nf_165, ob_some, Nf_row, ← rM0]
        refine (kA (Nf J (nI cost) (nI fr) mB) mB 0 (fun kM => ?_)).trans (by rw [Nf_Nf])
        rw [hK _ mB Nf_165 (by rw [e5 _ (by omega)]; exact hm42), Nf_Nf]
  · have hd0 : dd = 0 := hdd0 h2
    subst hd0
    obtain ⟨I7, mB, f1, f2, f3, f4, f5⟩ := holdF (B := B) ho hp h2 g j 1000 (B + 1) I6 mA hC hj (by omega) (hn1 h2) (by omega) h17
    refine ⟨nI j, I7, mB, ?_, f1, fun J hJ => ?_, f3.mono (by omega), f4, f5⟩
    · unfold X4_farthestToHold
      rw [hfar, jlet_d, ho4, if_neg (nI_cne (x := (2 : Int32)) (b := 2) rfl (by omega) (by omega) h2)]
    · obtain ⟨v20, -, e⟩ := hlook J hJ
      rw [e]
      unfold tailM
      rw [if_pos (by decide), jlet_d, rM0, show ((689 : Int32)).toNatClampNeg = 689 from rfl, Nf_165, hm4, if_neg (nI_cne (x := (2 : Int32)) (b := 2) rfl (by omega) (by omega) h2), ← rM0]
      refine (kA (Nf J (nI cost) (nI fr) mA) mB 0 (fun kM => ?_)).trans (by rw [Nf_Nf])
      rw [f2 _ Nf_165 kM, Nf_row, Nf_Nf]
