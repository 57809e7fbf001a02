/-! PAGES THAT COME AHEAD: on both sides -/
def msk (m : Mn) (S : Nat → Nat) (q : Int32) : Nat → Nat → Nat → Nat
  | 0, _, x => x
  | d + 1, i, x => msk m S q d (i + 1) (if (fnd m i (S i) q).isSome then x ||| 2 ^ i else x)
def anyL (m : Mn) (S : Nat → Nat) (q : Int32) : Nat → Nat → Bool
  | 0, _ => false
  | d + 1, i => (fnd m i (S i) q).isSome || anyL m S q d (i + 1)
theorem bitK : ∀ x, x < 16 → ∀ i, i < 4 → nI x ||| ((1 : Int32) <<< ((nI (i + 1) - (1 : Int32)) &&& 31)) = nI (x ||| 2 ^ i) ∧ x ||| 2 ^ i < 16 ∧ ¬ (x ||| 2 ^ i) = 0 := by decide +kernel
theorem msk_lt {m : Mn} {S : Nat → Nat} {q : Int32} : ∀ {d i x : Nat}, i + d ≤ 4 → x < 16 → msk m S q d i x < 16
  | 0, _, _, _, h => h
  | d + 1, i, x, h1, h2 => by
    unfold msk
    split
    · exact msk_lt (by omega) (bitK x h2 i (by omega)).2.1
    · exact msk_lt (by omega) h2
theorem msk_0 {m : Mn} {S : Nat → Nat} {q : Int32} : ∀ {d i x : Nat}, i + d ≤ 4 → x < 16 → (msk m S q d i x = 0 ↔ (x = 0 ∧ anyL m S q d i = false))
  | 0, i, x, h1, h2 => by simp [msk, anyL]
  | d + 1, i, x, h1, h2 => by
    unfold msk anyL
    cases hf : (fnd m i (S i) q).isSome with
    | true =>
      have hb := bitK x h2 i (by omega)
      rw [if_pos rfl, msk_0 (by omega) hb.2.1]
      simp [hb.2.2]
    | false =>
      rw [if_neg (by decide), msk_0 (by omega) h2]
      simp
theorem levelsWith_e {B o cnt mode T p : Nat} {S : Nat → Nat} (ho : OB o) (hp : p < 64) {I : jI} {m : Mn} (hc4 : cnt ≤ 4) (hcI : I o 1 = nI cnt) (hL : ∀ j, j < cnt → LR B (o + 10 + 9 * j) I m j (S j)) : X4_levelsWith o (nI p) I = some (nI (msk m S (nI p) cnt 0 0)) := by
  have key : ∀ d n i x, i + d = cnt → d < n → x < 16 → jfx (X4_levelsWith_F1 o (nI p) I) (fun _ _ => none) n (nI x) (nI (i + 1)) = some (nI (msk m S (nI p) d i x)) := by
    intro d
    induction d with
    | zero =>
      intro n i x h1 h2 h3
      obtain ⟨n, rfl⟩ : ∃ q, n = q + 1 := ⟨n - 1, by omega⟩
      rw [jfx_s, X4_levelsWith_F1, hcI, if_pos (nI_lt (by omega) (by omega))]
      rfl
    | succ d ih =>
      intro n i x h1 h2 h3
      obtain ⟨n, rfl⟩ : ∃ q, n = q + 1 := ⟨n - 1, by omega⟩
      have hLi := hL i (by omega)
      have hb : LB (o + 10 + 9 * i) := LB_o ho (by omega)
      have hs := hLi.1.1
      have hbk := bitK x h3 i (by omega)
      rw [jfx_s, X4_levelsWith_F1, hcI, if_neg (nI_nlt (by omega) (by omega)), levelAt_e ho I hcI hc4 (show i < cnt by omega), ob_some, jlet_d, if_neg hb.1, hLi.slotOf hb hp, ob_some, jlet_d, hbk.1, show nI (i + 1) + (1 : Int32) = nI (i + 1 + 1) from nI_1 _]
      unfold msk
      cases hf : fnd m i (S i) (nI p) with
      | none =>
        rw [if_pos (show oI none = (-1 : Int32) from rfl)]
        exact ih n (i + 1) x (by omega) (by omega) h3
      | some k =>
        have := (fnd_some hf).1
        rw [if_neg (show ¬ oI (some k) = (-1 : Int32) from m1_ne (by omega))]
        exact ih n (i + 1) _ (by omega) (by omega) hbk.2.1
  exact key cnt 1000 0 0 (by omega) (by omega) (by omega)
theorem anyWhere_e {B o cnt p : Nat} {S : Nat → Nat} {I : jI} {m : Mn} (hc4 : cnt ≤ 4) (hcm : m 688 = nI cnt) (hL : ∀ j, j < cnt → LR B (o + 10 + 9 * j) I m j (S j)) (J : jI) (hJ : J 165 = m) : X7_isAnywhere 164 (nI p) J = some (if anyL m S (nI p) cnt 0 = true then 1 else 0) := by
  have key1 : ∀ d n i, i + d = cnt → d < n → jfx (X7_isAnywhere_F1 164 (nI p) J) (fun _ _ => none) n 1 (nI i) = some 1 := by
    intro d
    induction d with
    | zero =>
      intro n i h1 h2
      obtain ⟨n, rfl⟩ : ∃ q, n = q + 1 := ⟨n - 1, by omega⟩
      rw [jfx_s, X7_isAnywhere_F1, if_pos (by decide), rM0, show ((688 : Int32)).toNatClampNeg = 688 from rfl, hJ, hcm, if_pos (nI_le (by omega) (by omega)), if_pos (Or.inr rfl)]
    | succ d ih =>
      intro n i h1 h2
      obtain ⟨n, rfl⟩ : ∃ q, n = q + 1 := ⟨n - 1, by omega⟩
      rw [jfx_s, X7_isAnywhere_F1, if_pos (by decide), rM0, show ((688 : Int32)).toNatClampNeg = 688 from rfl, hJ, hcm, if_neg (nI_ge (by omega) (by omega)), jlet_d, jlet_d, if_neg (by decide), show nI i + (1 : Int32) = nI (i + 1) from nI_1 _]
      exact ih n (i + 1) (by omega) (by omega)
  have key0 : ∀ d n i, i + d = cnt → d < n → jfx (X7_isAnywhere_F1 164 (nI p) J) (fun _ _ => none) n 0 (nI i) = some (if anyL m S (nI p) d i = true then 1 else 0) := by
    intro d
    induction d with
    | zero =>
      intro n i h1 h2
      obtain ⟨n, rfl⟩ : ∃ q, n = q + 1 := ⟨n - 1, by omega⟩
      rw [jfx_s, X7_isAnywhere_F1, if_pos (by decide), rM0, show ((688 : Int32)).toNatClampNeg = 688 from rfl, hJ, hcm, if_pos (nI_le (by omega) (by omega)), if_pos (Or.inl rfl)]
      rfl
    | succ d ih =>
      intro n i h1 h2
      obtain ⟨n, rfl⟩ : ∃ q, n = q + 1 := ⟨n - 1, by omega⟩
      have hLi := hL i (by omega)
      have hs := hLi.1.1
      rw [jfx_s, X7_isAnywhere_F1, if_pos (by decide), show ((688 : Int32)).toNatClampNeg = 688 from rfl, rM0, hJ, hcm, if_neg (nI_ge (by omega) (by omega)), jlet_d, jlet_d, if_pos rfl, found_e (by omega) hs.2 (by rw [hJ]; exact hLi.1.2.1.2), hJ, ob_some, show nI i + (1 : Int32) = nI (i + 1) from nI_1 _]
      unfold anyL
      cases hf : fnd m i (S i) (nI p) with
      | none =>
        rw [if_pos (show oI none < 0 by decide)]
        exact ih n (i + 1) (by omega) (by omega)
      | some k =>
        have := (fnd_some hf).1
        rw [if_neg (show ¬ oI (some k) < 0 from nI_pos (by omega))]
        exact key1 d n (i + 1) (by omega) (by omega)
  exact key0 cnt 1000 0 (by omega) (by omega)
theorem anyL_no {m : Mn} {S : Nat → Nat} {q : Int32} : ∀ {d i : Nat}, anyL m S q d i = false → ∀ j, i ≤ j → j < i + d → fnd m j (S j) q = none
  | 0, i, _, j, h1, h2 => by omega
  | d + 1, i, h, j, h1, h2 => by
    unfold anyL at h
    cases hf : fnd m i (S i) q with
    | none =>
      rw [hf] at h
      by_cases e : j = i
      · subst e; exact hf
      · exact anyL_no (d := d) (i := i + 1) (by simpa using h) j (by omega) (by omega)
    | some k => rw [hf] at h; simp at h
theorem STH.keep2 {o cnt mode T : Nat} {I I' : jI} {m m' : Mn} (h : STH o cnt mode T I m) (h1 : ∀ j, (j = 1 ∨ j = 4 ∨ j = 7) → I' o j = I o j) (h2 : ∀ i, (i = 688 ∨ i = 689 ∨ i = 693) → m' i = m i) : STH o cnt mode T I' m' := by
  obtain ⟨a, b, c, d, e, f⟩ := h
  exact ⟨by rw [h1 _ (by omega)]; exact a, by rw [h2 _ (by omega)]; exact b, by rw [h1 _ (by omega)]; exact c, by rw [h2 _ (by omega)]; exact d, by rw [h1 _ (by omega)]; exact e, by rw [h2 _ (by omega)]; exact f⟩
theorem lnle1 {r : Nat} (h1 : 2 ≤ r) (h2 : r < 2147483648) : ¬ nI r ≤ (1 : Int32) := by
  show ¬ nI r ≤ nI 1
  rw [nle_N h2 (by omega)]
  omega
theorem fet_key {o cnt mode T p a last : Nat} {S : Nat → Nat} (ho : OB o) (hp : p < 64) (ha : a ≤ 8) (hla : last = min (p + a) 63) (hc0 : 0 < cnt) {h : Int32} (hh : h = 0) : ∀ d n t (B : Nat) (I : jI) (m : Mn), CORE B o cnt mode T S I m → d + t = last + 1 → d < n → B + 4 * d < 1073741824 → p < t → m 691 = nI a → (∃ r, 2 ≤ r ∧ r < 2147483648 ∧ m 694 = nI r) → I o 10 = m 696 →
    ∃ I' m', (∀ k, jfx (X4_access_F1 o (nI last) k) (fun _ _ => none) n (nI t) I = k I') ∧ (∀ J : jI, J 165 = m → J 164 6 = h → ∀ k5, jfx (X7_follows_F3 164 (nI p) (nI (cnt - 1)) k5) (fun _ _ => none) n (nI t) J = k5 (jrow J 165 m')) ∧ CORE (B + 4 * d) o cnt mode T S I' m' ∧ (∀ r j, (r < o ∨ o + 46 ≤ r ∨ (o + 4 ≤ r ∧ r ≤ o + 9) ∨ r = o + 1 ∨ (r = o ∧ j ≠ 10 ∧ j ≠ 11 ∧ j ≠ 13) ∨ (r = o + 3 ∧ j ≠ 0)) → I' r j = I r j) ∧ (∀ i, ((64 ≤ i ∧ i < 128) ∨ (688 ≤ i ∧ i ≠ 696 ∧ i ≠ 697 ∧ i ≠ 699 ∧ i ≠ 700)) → m' i = m i) ∧ I' o 10 = m' 696 := by
  intro d
  induction d with
  | zero =>
    intro n t B I m hC h1 h2 hB hpt h691 hrun h10
    obtain ⟨n, rfl⟩ : ∃ q, n = q + 1 := ⟨n - 1, by omega⟩
    obtain ⟨⟨hc4, -⟩, -⟩ := id hC
    obtain ⟨r, hr1, hr2, hr3⟩ := hrun
    refine ⟨I, m, fun k => ?_, fun J hJ hJ6 k5 => ?_, hC, fun _ _ _ => rfl, fun _ _ => rfl, h10⟩
    · rw [jfx_s, X4_access_F1, if_pos (nI_lt (by omega) (by omega))]
    · rw [jfx_s, X7_follows_F3, hJ6, if_pos hh, if_pos (by decide), rM0, show ((694 : Int32)).toNatClampNeg = 694 from rfl, hJ, hr3, if_neg (lnle1 hr1 hr2), if_neg (nI_pos (by omega)), if_pos (by decide), show ((691 : Int32)).toNatClampNeg = 691 from rfl, h691, nI_add, ← hJ, jrow_id]
      by_cases c : p + a < t
      · rw [if_pos (nI_lt c (by omega))]
      · rw [if_neg (nI_nlt (by omega) (by omega)), if_pos (lle (64 : Int32) 64 rfl (by omega) (by omega))]
  | succ d ih =>
    intro n t B I m hC h1 h2 hB hpt h691 hrun h10
    obtain ⟨n, rfl⟩ : ∃ q, n = q + 1 := ⟨n - 1, by omega⟩
    obtain ⟨⟨hc4, -⟩, ⟨hcI, hcm, -⟩, hL, hD, -⟩ := id hC
    have ht : t < 64 := by omega
    have hmem : I (o + 2) t = m t := hD.1 t ht
    have eM : ∀ J : jI, J 165 = m → J 164 6 = h → ∀ k5, jfx (X7_follows_F3 164 (nI p) (nI (cnt - 1)) k5) (fun _ _ => none) (n + 1) (nI t) J = if anyL m S (nI t) cnt 0 = true then jfx (X7_follows_F3 164 (nI p) (nI (cnt - 1)) k5) (fun _ _ => none) n (nI (t + 1)) J else (X7_places 10 164 (nI (cnt - 1)) (nI t) (m t) (0 : Int32) J).bind (fun (I48 : jI) => jfx (X7_follows_F3 164 (nI p) (nI (cnt - 1)) k5) (fun _ _ => none) n (nI (t + 1)) (jup I48 165 696 (I48 165 696 + 1))) := by
      intro J hJ hJ6 k5
      obtain ⟨r, hr1, hr2, hr3⟩ := hrun
      rw [jfx_s, X7_follows_F3, hJ6, if_pos hh, if_pos (by decide), rM0, show ((694 : Int32)).toNatClampNeg = 694 from rfl, hJ, hr3, if_neg (lnle1 hr1 hr2), if_neg (nI_pos (by omega)), if_pos (by decide), show ((691 : Int32)).toNatClampNeg = 691 from rfl, h691, nI_add, if_neg (nI_nlt (show t ≤ p + a by omega) (by omega)), if_neg (lge (64 : Int32) 64 rfl ht (by omega)), anyWhere_e hc4 hcm hL J hJ, ob_some, jlet_d, show nI t + (1 : Int32) = nI (t + 1) from nI_1 _]
      by_cases c : anyL m S (nI t) cnt 0 = true
      · rw [if_pos c, if_pos c, if_neg (by decide)]
      · rw [if_neg c, if_neg c, if_pos rfl, if_pos (jin_N (by omega) (by omega)), cl_N (by omega)]
        rfl
    have eC : ∀ k, jfx (X4_access_F1 o (nI last) k) (fun _ _ => none) (n + 1) (nI t) I = if anyL m S (nI t) cnt 0 = true then jfx (X4_access_F1 o (nI last) k) (fun _ _ => none) n (nI (t + 1)) I else (X4_placeInto 10 o (nI cnt) (nI t) (m t) (0 : Int32) I).bind (fun (I34 : jI) => jfx (X4_access_F1 o (nI last) k) (fun _ _ => none) n (nI (t + 1)) (jup I34 o 10 (I34 o 10 + 1))) := by
      intro k
      have hm0 := msk_0 (m := m) (S := S) (q := nI t) (d := cnt) (i := 0) (x := 0) (by omega) (by omega)
      have hml := msk_lt (m := m) (S := S) (q := nI t) (d := cnt) (i := 0) (x := 0) (by omega) (by omega)
      rw [jfx_s, X4_access_F1, if_neg (nI_nlt (by omega) (by omega)), levelsWith_e (mode := mode) (T := T) ho ht hc4 hcI hL, ob_some, jlet_d, show nI t + (1 : Int32) = nI (t + 1) from nI_1 _]
      by_cases c : anyL m S (nI t) cnt 0 = true
      · rw [if_pos c, if_neg (nI_ne0 (Nat.pos_of_ne_zero (fun e => by have := (hm0.mp e).2; rw [c] at this; cases this)) (by omega))]
      · rw [if_neg c, hm0.mpr ⟨rfl, by simpa using c⟩, if_pos (show nI 0 = (0 : Int32) from rfl), inMem_e ho ht, ob_some, hmem, hcI]
        rfl
    by_cases c : anyL m S (nI t) cnt 0 = true
    · obtain ⟨I', m', e1, e2, e3, e4⟩ := ih n (t + 1) B I m hC (by omega) (by omega) (by omega) (by omega) h691 hrun h10
      refine ⟨I', m', fun k => ?_, fun J hJ hJ6 k5 => ?_, e3.mono (by omega), e4⟩
      · rw [eC, if_pos c]; exact e1 k
      · rw [eM J hJ hJ6, if_pos c]; exact e2 J hJ hJ6 k5
    · have hno : ∀ l, l < cnt → ¬ inL m l t := fun l hl => (hL l hl).notIn ht (anyL_no (by simpa using c) l (by omega) (by omega))
      obtain ⟨I1, m1, f1, f2, f3, f4, f5, -⟩ := place_core (p := t) (v := m t) (d := 0) ho hC (l := cnt - 1) (by omega) ht (hno _ (by omega)) (fun _ => hno) (Or.inl rfl) (by omega)
      rw [show cnt - 1 + 1 = cnt by omega] at f1
      have h10' : I1 o 10 = m1 696 := by rw [f4 o 10 (by omega), f5 696 (by omega)]; exact h10
      have hC' : CORE (B + 4) o cnt mode T S (jup I1 o 10 (I1 o 10 + 1)) (ju1 m1 696 (m1 696 + 1)) := by
        obtain ⟨g1, g2, g3, g4, g5⟩ := f3
        refine ⟨g1, g2.keep2 (fun j h1 => by rw [jup_q, ju1_ne _ _ (by omega)]) (fun i h1 => ju1_ne _ _ (by omega)), fun j hj => (g3 j hj).congr (fun r a b => jup_ne _ _ (by omega)) (fun w a b => ju1_ne _ _ (by omega)), g4.congr (jup_ne _ _ (by omega)) (jup_nj _ _ (by omega)) (jup_nj _ _ (by omega)) (jup_nj _ _ (by omega)) (fun i hi => ju1_ne _ _ (by omega)), fun h2 => (g5 h2).of hc4 (fun j kk _ h1 h3 => Or.inl (ju1_ne _ _ (by omega)))⟩
      obtain ⟨r, hr1, hr2, hr3⟩ := hrun
      obtain ⟨I', m', e1, e2, e3, e4, e5, e6⟩ := ih n (t + 1) (B + 4) _ _ hC' (by omega) (by omega) (by omega) (by omega) (by rw [ju1_ne _ _ (by omega), f5 _ (by omega)]; exact h691) ⟨r, hr1, hr2, by rw [ju1_ne _ _ (by omega), f5 _ (by omega)]; exact hr3⟩ (by rw [jup_q, ju1_eq, ju1_eq, h10'])
      refine ⟨I', m', fun k => ?_, fun J hJ hJ6 k5 => ?_, e3.mono (by omega), fun r j hr => ?_, fun i hi => ?_, e6⟩
      · rw [eC, if_neg c, f1, ob_some]; exact e1 k
      · rw [eM J hJ hJ6, if_neg c, f2 J hJ, ob_some]
        refine (e2 _ (by rw [jup_q, jrow_self]) (by rw [jup_ne _ _ (by omega), jrow_ne _ _ (by omega)]; exact hJ6) k5).trans ?_
        rw [jup_def, jrow_jrow, jrow_jrow]
      · rw [e4 r j hr, jup_nj _ _ (by omega), f4 r j (by omega)]
      · rw [e5 i hi, ju1_ne _ _ (by omega), f5 i (by omega)]
