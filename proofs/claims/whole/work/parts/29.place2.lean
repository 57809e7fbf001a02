/-! PLACING, one level -/
theorem inL.of {m m' : Mn} {l q : Nat} (h : inL m' l q) (hs : ∀ k, k < 16 → m' (140 + 140 * l + 7 * k) = m (140 + 140 * l + 7 * k)) : inL m l q := by
  obtain ⟨k, h1, h2⟩ := h
  exact ⟨k, h1, by rw [← hs k h1]; exact h2⟩
theorem ndk_app {m : Mn} {S : Nat → Nat} {q : Int32} : ∀ {d i : Nat}, ndk m S q (d + 1) i = match ndk m S q d i with
    | some x => some x
    | none => (match fnd m (i + d) (S (i + d)) q with
      | some k => if m (140 + 140 * (i + d) + 7 * k + 2) = 1 then some (i + d, k) else none
      | none => none)
  | 0, i => by
    cases hf : fnd m i (S i) q with
    | none => rw [ndk_n hf]; simp only [ndk, Nat.add_zero, hf]
    | some k => rw [ndk_k hf]; simp only [ndk, Nat.add_zero, hf]
  | d + 1, i => by
    have ih := ndk_app (m := m) (S := S) (q := q) (d := d) (i := i + 1)
    rw [show i + (d + 1) = i + 1 + d by omega]
    cases hf : fnd m i (S i) q with
    | none => rw [ndk_n hf, ndk_n hf]; exact ih
    | some k =>
      rw [ndk_k hf, ndk_k hf]
      by_cases e : m (140 + 140 * i + 7 * k + 2) = 1
      · rw [if_pos e, if_pos e]
      · rw [if_neg e, if_neg e]; exact ih
theorem ndk_app1 {m : Mn} {S : Nat → Nat} {q : Int32} {d i : Nat} {x : Nat × Nat} (h : ndk m S q d i = some x) : ndk m S q (d + 1) i = some x := by
  rw [ndk_app, h]
theorem ndk_app2 {m : Mn} {S : Nat → Nat} {q : Int32} {d i l k : Nat} (h : ndk m S q d i = none) (hl : i + d = l) (hf : fnd m l (S l) q = some k) : ndk m S q (d + 1) i = if m (140 + 140 * l + 7 * k + 2) = 1 then some (l, k) else none := by
  subst hl
  rw [ndk_app, h]
  simp only [hf]
theorem fluV0 {B o l cnt q i0 : Nat} (ho : OB o) {I1 : jI} {m1 : Mn} {S : Nat → Nat} (hc4 : cnt ≤ 4) (hcI : I1 o 1 = nI cnt) (hl : l < cnt) (hq : q < 64) (hi : i0 ≤ l) (hy : (if (I1 o 4) = (1 : Int32) then (1 : Int32) else nI (l + 1)) = nI (i0 + 1)) (hL : ∀ j, i0 ≤ j → j ≤ l → LR B (o + 10 + 9 * j) I1 m1 j (S j)) (hx : ndk m1 S (nI q) (l + 1 - i0) i0 = none) :
    X4_flushVictim o (nI (l + 1)) (nI q) I1 = jfx (X4_flushVictim_F1 o (nI (l + 1)) (nI q)) (fun _ _ => none) 1000 (nI (i0 + 1)) I1 := by
  unfold X4_flushVictim X4_nearestDirty
  rw [hy, jlet_d, nearD_e ho hc4 hcI hl hq (l + 1 - i0) 1000 i0 (by omega) (by omega) hL, hx, ob_some, jlet_d, if_pos (show lvR o none = 0 from rfl)]
theorem fluV1 {B o l cnt q i0 j kk : Nat} (ho : OB o) {I1 I2 : jI} {m1 : Mn} {S : Nat → Nat} (hc4 : cnt ≤ 4) (hcI : I1 o 1 = nI cnt) (hl : l < cnt) (hq : q < 64) (hi : i0 ≤ l) (hy : (if (I1 o 4) = (1 : Int32) then (1 : Int32) else nI (l + 1)) = nI (i0 + 1)) (hL : ∀ j, i0 ≤ j → j ≤ l → LR B (o + 10 + 9 * j) I1 m1 j (S j)) (hx : ndk m1 S (nI q) (l + 1 - i0) i0 = some (j, kk)) (hf : X4_flush o (nI (l + 1)) (nI q) (m1 (140 + 140 * j + 7 * kk + 1)) I1 = some I2) :
    X4_flushVictim o (nI (l + 1)) (nI q) I1 = jfx (X4_flushVictim_F1 o (nI (l + 1)) (nI q)) (fun _ _ => none) 1000 (nI (i0 + 1)) I2 := by
  obtain ⟨a1, a2, a3, -⟩ := ndk_some hx
  have hLj := hL j a1 (by omega)
  have hb : LB (o + 10 + 9 * j) := LB_o ho (by omega)
  have hs := hLj.1.1
  obtain ⟨k1, k2, -⟩ := fnd_some a3
  obtain ⟨-, -, u0, -⟩ := hLj.slot (show kk < 16 by omega) k2 hq
  unfold X4_flushVictim X4_nearestDirty
  rw [hy, jlet_d, nearD_e ho hc4 hcI hl hq (l + 1 - i0) 1000 i0 (by omega) (by omega) hL, hx, ob_some, jlet_d, if_neg (show ¬ lvR o (some (j, kk)) = 0 from hb.1)]
  show (X2_slotOf (o + 10 + 9 * j) (nI q) I1).bind _ = _
  rw [hLj.slotOf hb hq, a3, ob_some]
  show (X2_valueIn (o + 10 + 9 * j) (nI kk) I1).bind _ = _
  rw [valueIn_e hb (by omega), ob_some, u0, hf, ob_some]
def PlaceOK (o cnt mode T : Nat) (S : Nat → Nat) (l : Nat) (fC fM : Int32 → Int32 → Int32 → Int32 → jI → Option jI) (gr : Nat) : Prop :=
  ∀ (p : Nat) (v d : Int32) (I : jI) (m : Mn) (B a : Nat), STH o cnt mode T I m → T ≤ B → 1 ≤ B → B + gr < 1073741824 → (mode = 1 → a = 0) → a ≤ l → (∀ j, a ≤ j → j < cnt → LR B (o + 10 + 9 * j) I m j (S j)) → SD B o I m → p < 64 → ¬ inL m l p → (d = 0 ∨ d = 1) →
    (mode = 2 → EXF m cnt l ∧ ∀ l', l ≤ l' → l' < cnt → ¬ inL m l' p) →
    ∃ I' m', fC (nI (l + 1)) (nI p) v d I = some I' ∧ (∀ J : jI, J 165 = m → fM (nI l) (nI p) v d J = some (jrow J 165 m')) ∧ (∀ j, a ≤ j → j < cnt → LR (B + gr) (o + 10 + 9 * j) I' m' j (S j)) ∧ SD (B + gr) o I' m' ∧ KP o I I' ∧ KM m m' ∧ (mode ≠ 1 → KN o l I I' m m') ∧
      (mode = 2 → EXF m' cnt l ∧ ∀ l' q, l ≤ l' → l' < cnt → q < 64 → inL m' l' q → q = p ∨ ∃ l2, l ≤ l2 ∧ l2 < cnt ∧ inL m l2 q) ∧
      (mode ≠ 2 → ∀ l' q, l' < cnt → q < 64 → inL m' l' q → inL m l' q ∨ (l' = l ∧ q = p))
theorem nI_cne {a b : Nat} {x : Int32} (hx : x = nI b) (ha : a < 2147483648) (hb : b < 2147483648) (h : a ≠ b) : ¬ nI a = x := by
  subst hx
  exact fun e => h ((nI_eq ha hb).mp e)
theorem place_step {o cnt mode T l gr : Nat} {S : Nat → Nat} (ho : OB o) (hc4 : cnt ≤ 4) (hmode : mode ≤ 2) (hl : l < cnt) {recC recM : Nat → Int32 → Int32 → Int32 → Int32 → jI → Option jI} (hrec : l + 1 < cnt → PlaceOK o cnt mode T S (l + 1) (recC o) (recM 164) gr) : PlaceOK o cnt mode T S l (X4_placeIntoF recC o) (X7_placesF recM 164) (gr + 1) := by
  intro p v d I m B a hH hTB hB1 hB2 ha hal hL hD hp hnp hd hex
  obtain ⟨hc, hcm, ho4, hm4, hT, hTm⟩ := id hH
  have hLl := hL l hal hl
  have hb : LB (o + 10 + 9 * l) := LB_o ho (by omega)
  have hs := hLl.1.1
  have hm0 := hLl.1.2.1.2
  have hfs := hLl.freeSlot hb
  have hnp' : ∀ j, j < 16 → ¬ m (140 + 140 * l + 7 * j) = nI p := fun j hj e => hnp ⟨j, hj, e⟩
  cases hf : fnd m l (S l) (-1) with
  | some k =>
    obtain ⟨hk, hke, -⟩ := fnd_some hf
    obtain ⟨I', m', e1, e2, e3, e4, e5, e6, e7⟩ := put_sim ho (by omega) hLl hD hf hnp' hp hT hTm hTB hB1 (v := v) hd
    have erow : ∀ r, (r < o + 10 + 9 * l ∨ o + 10 + 9 * l + 9 ≤ r) → r ≠ o → I' r = I r := fun r h1 h2 => by funext x; exact e5 r x h1 (Or.inl h2)
    have epg : ∀ l' k', l' ≠ l → l' < 4 → k' < 16 → m' (140 + 140 * l' + 7 * k') = m (140 + 140 * l' + 7 * k') := fun l' k' h1 h2 h3 => e6 _ (by omega) (by omega)
    have esub : ∀ l' q, l' < cnt → q < 64 → inL m' l' q → inL m l' q ∨ (l' = l ∧ q = p) := fun l' q h1 h2 h3 => by
      by_cases e : l' = l
      · subst e
        obtain ⟨j, j1, j2⟩ := h3
        rcases e7 j j1 with z | z
        · rw [z] at j2
          exact Or.inr ⟨rfl, ((nI_eq (by omega) (by omega)).mp j2).symm⟩
        · rw [z] at j2; exact Or.inl ⟨j, j1, j2⟩
      · exact Or.inl (h3.of (fun k' hk' => epg l' k' e (by omega) hk'))
    refine ⟨I', m', ?_, fun J hJ => ?_, fun j h1 h2 => ?_, e4.mono (by omega), fun r j hr => e5 r j (by omega) (by omega), fun i hi => e6 i (by omega) (by omega), fun _ => ⟨fun r h1 h2 => erow r (by omega) (by omega), fun i h1 h2 => e6 i (by omega) (by omega)⟩, fun h2 => ⟨?_, fun l' q h1 h2' h3 h4 => ?_⟩, fun _ => esub⟩
    · unfold X4_placeIntoF
      rw [levelAt_e ho I hc hc4 hl, ob_some, if_neg hb.1, hfs, hf, ob_some, jlet_d, if_neg (show ¬ oI (some k) = (-1 : Int32) from m1_ne (by omega))]
      exact e1
    · rw [places_e, found_e (by omega) hs.2 (by rw [hJ]; exact hm0), hJ, hf, ob_some, if_pos (show 0 ≤ oI (some k) from nI_pos' (by omega))]
      exact e2 J hJ
    · by_cases e : j = l
      · subst e; exact e3.mono (by omega)
      · exact ((hL j h1 h2).congr (fun r a b => erow r (by omega) (by omega)) (fun i a b => e6 i (by omega) (by omega))).mono (by omega)
    · intro l1 l2 q a1 a2 a3 a4 a5 a6
      obtain ⟨x1, x2⟩ := hex h2
      rcases esub l1 q (by omega) a4 a5 with y1 | ⟨y1, y2⟩ <;> rcases esub l2 q a3 a4 a6 with z1 | ⟨z1, z2⟩
      · exact x1 l1 l2 q a1 a2 a3 a4 y1 z1
      · omega
      · exact x2 l2 (by omega) a3 (by rw [← y2]; exact z1)
      · omega
    · rcases esub l' q h2' h3 h4 with z | ⟨z1, z2⟩
      · exact Or.inr ⟨l', h1, h2', z⟩
      · exact Or.inl z2
  | none =>
    have hfull : ∀ k, k < S l → ¬ m (140 + 140 * l + 7 * k) = -1 := fnd_none hf
    obtain ⟨k, I1, m1, v1, v2, hk, hL1, hg1, fI, fm, fp⟩ := victim_sim ho (by omega) (by omega) hLl hfull hD.2.2.1
    have fIr : ∀ r, (r < o + 10 + 9 * l ∨ o + 10 + 9 * l + 9 ≤ r) → r ≠ o + 3 → I1 r = I r := fun r h1 h2 => by funext x; exact fI r x h1 (Or.inl h2)
    have hH1 : STH o cnt mode T I1 m1 := hH.keep (fun j _ _ => fI o j (by omega) (by omega)) (fun i h1 h2 h3 h4 => fm i h3 (by omega))
    obtain ⟨hc1, hcm1, ho41, hm41, hT1, hTm1⟩ := id hH1
    have hD1 : SD B o I1 m1 := by
      obtain ⟨d1, d2, d3, x, d4, d5, d6⟩ := hD
      refine ⟨fun p hp => ?_, ?_, hg1, x, d4, ?_, ?_⟩
      · rw [fIr _ (by omega) (by omega), fm _ (by omega) (by omega)]; exact d1 p hp
      · rw [fIr _ (by omega) (by omega), fm _ (by omega) (by omega)]; exact d2
      · rw [fIr _ (by omega) (by omega)]; exact d5
      · rw [fm _ (by omega) (by omega)]; exact d6
    have hL1a : ∀ j, a ≤ j → j < cnt → LR B (o + 10 + 9 * j) I1 m1 j (S j) := fun j h1 h2 => by
      by_cases e : j = l
      · subst e; exact hL1
      · exact (hL j h1 h2).congr (fun r a b => fIr r (by omega) (by omega)) (fun i a b => fm i (by omega) (by omega))
    have hfull1 : ∀ j, j < S l → ¬ m1 (140 + 140 * l + 7 * j) = -1 := fun j hj => by rw [fp]; exact hfull j hj
    have hn1 : ∀ j, j < 16 → ¬ m1 (140 + 140 * l + 7 * j) = nI p := fun j hj => by rw [fp]; exact hnp' j hj
    have fpa : ∀ l' k', l' < 4 → k' < 16 → m1 (140 + 140 * l' + 7 * k') = m (140 + 140 * l' + 7 * k') := fun l' k' h1 h2 => by
      by_cases e : l' = l
      · subst e; exact fp k'
      · exact fm _ (by omega) (by omega)
    obtain ⟨q, hq, hpg, -⟩ := hL1.page (show k < 16 by omega) (hfull1 k hk)
    obtain ⟨-, hix, u0, u1, u2⟩ := hL1.slot (show k < 16 by omega) hpg hq
    have hpC : I1 (o + 10 + 9 * l + 1) k = nI q := by rw [(hL1.2.1 k (by omega)).1, hpg]
    have hfq : fnd m1 l (S l) (nI q) = some k := by
      have h1 := hL1.ixp hq
      rw [hix] at h1
      cases h2 : fnd m1 l (S l) (nI q) with
      | none => rw [h2] at h1; exact absurd h1 (m1_ne (by omega))
      | some k2 =>
        rw [h2] at h1
        have := (fnd_some h2).1
        rw [(nI_eq (a := k) (b := k2) (by omega) (by omega)).mp h1]
    have huni : ∀ j, j < 16 → m1 (140 + 140 * l + 7 * j) = nI q → j = k := fun j hj h1 => by
      have h2 := (hL1.slot hj h1 hq).2.1
      rw [hix] at h2
      exact ((nI_eq (by omega) (by omega)).mp h2).symm
    have hinq : inL m l q := ⟨k, by omega, by rw [← fp]; exact hpg⟩
    have hclass : ∀ (I3 : jI) (R : Option jI), (if (I1 o 4) = (2 : Int32) then (if (I1 o 1) ≤ nI (l + 1) then X4_flushVictim o (nI (l + 1)) (nI q) I1 else recC o (nI (l + 1 + 1)) (nI q) (m1 (140 + 140 * l + 7 * k + 1)) (m1 (140 + 140 * l + 7 * k + 2)) I1) else X4_flushVictim o (nI (l + 1)) (nI q) I1) = some I3 →
        (X2_letOut (o + 10 + 9 * l) (nI k) I3).bind (fun (I8 : jI) => (X2_hold (o + 10 + 9 * l) (nI k) (nI p) (I8 o 13) (I8 o 7) I8).bind (fun (I10 : jI) => (X2_change (o + 10 + 9 * l) (nI k) v d I10).bind (fun (I12 : jI) => jlet (jup I12 o 13 ((I12 o 13) + (1 : Int32))) (fun (I14 : jI) => some I14)))) = R → X4_placeIntoF recC o (nI (l + 1)) (nI p) v d I = R := by
      intro I3 R h1 h2
      unfold X4_placeIntoF
      rw [levelAt_e ho I hc hc4 hl, ob_some, if_neg hb.1, hfs, hf, ob_some, jlet_d, if_pos (show oI none = (-1 : Int32) from rfl), v1, jb2_some, jlet_d, jlet_d, pageIn_e hb (by omega), hpC, ob_some, ob_some, valueIn_e hb (by omega), u0, ob_some, isDirty_e hb (by omega) I1 (by rw [u1]; exact u2), u1, ob_some, show nI (l + 1) + (1 : Int32) = nI (l + 1 + 1) from nI_1 _]
      by_cases c1 : (I1 o 4) = (2 : Int32)
      · rw [if_pos c1] at h1 ⊢
        by_cases c2 : (I1 o 1) ≤ nI (l + 1)
        · rw [if_pos c2] at h1 ⊢
          rw [h1, ob_some]; exact h2
        · rw [if_neg c2] at h1 ⊢
          rw [h1, ob_some]; exact h2
      · rw [if_neg c1] at h1 ⊢
        rw [h1, ob_some]; exact h2
    have hmodel : ∀ (m4 m' : Mn), (∀ J : jI, J 165 = m1 → X7_goesOut recM 164 (nI l) (nI k) J = some (jrow J 165 m4)) → (∀ J : jI, J 165 = m4 → putsM (nI l) (nI p) v d J = some (jrow J 165 m')) → ∀ J : jI, J 165 = m → X7_placesF recM 164 (nI l) (nI p) v d J = some (jrow J 165 m') := by
      intro m4 m' h1 h2 J hJ
      rw [places_e, found_e (by omega) hs.2 (by rw [hJ]; exact hm0), hJ, hf, ob_some, if_neg (show ¬ 0 ≤ oI none by decide), v2 J hJ, jb2_some, h1 _ (jrow_self _ _ _), ob_some, h2 _ (jrow_self _ _ _), jrow_jrow, jrow_jrow]
    by_cases hA : mode = 2 ∧ l + 1 < cnt
    · obtain ⟨hm2, hl1⟩ := hA
      obtain ⟨x1, x2⟩ := hex hm2
      have em3 : ∀ w, (w < 128 + 140 * l ∨ 268 + 140 * l ≤ w) → mOut m1 l k w = m1 w := fun w hw => by unfold mOut; simp (disch := omega) only [ju1_ne]
      have eps3 : ∀ l' k', l' ≠ l → l' < 4 → k' < 16 → mOut m1 l k (140 + 140 * l' + 7 * k') = m (140 + 140 * l' + 7 * k') := fun l' k' h1 h2 h3 => by rw [em3 _ (by omega)]; exact fpa l' k' h2 h3
      have ninq : ∀ l', l + 1 ≤ l' → l' < cnt → ¬ inL (mOut m1 l k) l' q := fun l' h1 h2 h3 => x1 l l' q (by omega) (by omega) h2 hq hinq (h3.of (fun k' hk' => eps3 l' k' (by omega) (by omega) hk'))
      obtain ⟨I2, m4, r1, r2, r3, r4, r5, r6, r7, r8, -⟩ := hrec hl1 q (m1 (140 + 140 * l + 7 * k + 1)) (m1 (140 + 140 * l + 7 * k + 2)) I1 (mOut m1 l k) B (l + 1) (hH1.keep (fun _ _ _ => rfl) (fun i h1 _ _ _ => em3 i (by omega))) hTB hB1 (by omega) (by omega) (by omega)
        (fun j h1 h2 => (hL1a j (by omega) h2).congr (fun _ _ _ => rfl) (fun i a b => em3 i (by omega))) (hD1.congr rfl rfl rfl rfl (fun i hi => em3 i (by omega))) hq (ninq (l + 1) (by omega) hl1) u2
        (fun _ => ⟨fun l1 l2 q' a1 a2 a3 a4 a5 a6 => x1 l1 l2 q' (by omega) a2 a3 a4 (a5.of (fun k' hk' => eps3 l1 k' (by omega) (by omega) hk')) (a6.of (fun k' hk' => eps3 l2 k' (by omega) (by omega) hk')), ninq⟩)
      have r7' := r7 (by omega)
      obtain ⟨r8a, r8b⟩ := r8 hm2
      obtain ⟨I', m', e1, e2, e3, e4, e5, e6, e7⟩ := fin_sim (a := l) (B := B + gr) (T := T) ho hc4 hl (hL1.mono (by omega)) hk hq hpg (fun r h1 h2 => r7'.1 r (by omega) (by omega)) (fun w h1 h2 => r7'.2 w (by omega) (by omega)) (fun j h1 h2 h3 => r3 j (by omega) h2) r4 hn1 hp (by rw [r5 o 7 (by omega)]; exact hT1) (by rw [r6 693 (by omega), em3 _ (by omega)]; exact hTm1) (by omega) (by omega) (v := v) hd hfull1
      have erow : ∀ r, (r < o + 10 + 9 * l ∨ o + 10 + 9 * l + 9 ≤ r) → r ≠ o → I' r = I2 r := fun r h1 h2 => by funext x; exact e5 r x h1 (Or.inl h2)
      have hKN : KN o l I I' m m' := ⟨fun r h1 h2 => by rw [erow r (by omega) (by omega), r7'.1 r (by omega) (by omega), fIr r (by omega) (by omega)], fun i h1 h2 => by rw [e6 i (by omega) (by omega), r7'.2 i (by omega) (by omega), em3 i (by omega), fm i (by omega) (by omega)]⟩
      have hbelow : ∀ l' q', l < l' → l' < cnt → q' < 64 → inL m' l' q' → inL m4 l' q' ∧ (q' = q ∨ ∃ l2, l + 1 ≤ l2 ∧ l2 < cnt ∧ inL m l2 q') := fun l' q' h1 h2 h3 h4 => by
        have h5 : inL m4 l' q' := h4.of (fun k' hk' => e6 _ (by omega) (by omega))
        refine ⟨h5, ?_⟩
        rcases r8b l' q' (by omega) h2 h3 h5 with z | ⟨l2, z1, z2, z3⟩
        · exact Or.inl z
        · exact Or.inr ⟨l2, z1, z2, z3.of (fun k' hk' => eps3 l2 k' (by omega) (by omega) hk')⟩
      have hhere : ∀ q', q' < 64 → inL m' l q' → q' = p ∨ (q' ≠ q ∧ inL m l q') := fun q' h1 h2 => by
        obtain ⟨j, j1, j2⟩ := h2
        rcases e7 j j1 with z | z | ⟨z1, z⟩
        · rw [z] at j2; exact Or.inl ((nI_eq (by omega) (by omega)).mp j2).symm
        · rw [z] at j2; exact absurd j2.symm (m1_ne (by omega))
        · rw [z] at j2
          refine Or.inr ⟨fun e => ?_, j, j1, by rw [← fp]; exact j2⟩
          subst e
          exact z1 (huni j j1 j2)
      refine ⟨I', m', hclass I2 _ ?_ e1, hmodel m4 m' (fun J hJ => ?_) e2, fun j h1 h2 => ?_, e4.mono (by omega), fun r j hr => ?_, fun i hi => ?_, fun _ => hKN, fun _ => ⟨?_, fun l' q' h1 h2 h3 h4 => ?_⟩, fun h => absurd hm2 h⟩
      · rw [ho41, hm2, if_pos (show nI 2 = (2 : Int32) from rfl), hc1, if_neg (nI_ge hl1 (by omega))]
        exact r1
      · rw [goes_e (by omega) (by omega) J hJ hm41 hmode hpg u2, if_neg (by omega), outs_e hl hc4 (by omega) J hJ hcm1 hm41 hmode, if_pos ⟨hm2, hl1⟩, show (if m1 (140 + 140 * l + 7 * k + 2) = 0 then (0 : Int32) else 1) = m1 (140 + 140 * l + 7 * k + 2) by rcases u2 with u | u <;> rw [u] <;> rfl, r2 _ (jrow_self _ _ _), jrow_jrow]
      · by_cases e : j < l
        · exact ((hL j h1 h2).near hKN e).mono (by omega)
        · exact (e3 j (by omega) h2).mono (by omega)
      · rw [e5 r j (by omega) (by omega), r5 r j hr, fI r j (by omega) (by omega)]
      · rw [e6 i (by omega) (by omega), r6 i hi, em3 i (by omega), fm i (by omega) (by omega)]
      · intro l1 l2 q' a1 a2 a3 a4 a5 a6
        obtain ⟨b1, b2⟩ := hbelow l2 q' (by omega) a3 a4 a6
        by_cases e : l1 = l
        · subst e
          rcases hhere q' a4 a5 with z | ⟨z1, z2⟩
          · subst z
            rcases b2 with b2 | ⟨l3, c1, c2, c3⟩
            · subst b2; exact hnp hinq
            · exact x2 l3 (by omega) c2 c3
          · rcases b2 with b2 | ⟨l3, c1, c2, c3⟩
            · exact z1 b2
            · exact x1 l1 l3 q' (by omega) (by omega) c2 a4 z2 c3
        · exact r8a l1 l2 q' (by omega) a2 a3 a4 (hbelow l1 q' (by omega) (by omega) a4 a5).1 b1
      · by_cases e : l' = l
        · subst e
          rcases hhere q' h3 h4 with z | ⟨-, z⟩
          · exact Or.inl z
          · exact Or.inr ⟨l', h1, h2, z⟩
        · rcases (hbelow l' q' (by omega) h2 h3 h4).2 with z | ⟨l2, z1, z2, z3⟩
          · subst z; exact Or.inr ⟨l, by omega, hl, hinq⟩
          · exact Or.inr ⟨l2, by omega, z2, z3⟩
    · obtain ⟨i0, hi0⟩ : ∃ i0, i0 = if mode = 1 then 0 else l := ⟨_, rfl⟩
      have hi0l : i0 ≤ l := by rw [hi0]; split <;> omega
      have hai0 : a ≤ i0 := by
        rw [hi0]; split
        · next h => rw [ha h]; exact Nat.le_refl _
        · exact hal
      have hi0n : mode ≠ 1 → i0 = l := fun h => by rw [hi0, if_neg h]
      have hy : (if (I1 o 4) = (1 : Int32) then (1 : Int32) else nI (l + 1)) = nI (i0 + 1) := by
        rw [ho41, hi0]
        by_cases h1 : mode = 1
        · subst h1; rfl
        · rw [if_neg (nI_cne (x := (1 : Int32)) (b := 1) rfl (by omega) (by omega) h1), if_neg h1]
      obtain ⟨own, hown⟩ : ∃ x, x = m1 (140 + 140 * l + 7 * k + 1) := ⟨_, rfl⟩
      obtain ⟨dd, hddd⟩ : ∃ x, x = m1 (140 + 140 * l + 7 * k + 2) := ⟨_, rfl⟩
      obtain ⟨X, hX⟩ : ∃ X, X = ndk m1 S (nI q) (l - i0) i0 := ⟨_, rfl⟩
      obtain ⟨m2, hm2⟩ : ∃ m2, m2 = mNear S (nI q) (l - i0) i0 m1 := ⟨_, rfl⟩
      obtain ⟨V, hV⟩ : ∃ V, V = acV m1 X own 0 := ⟨_, rfl⟩
      obtain ⟨D, hDD⟩ : ∃ D, D = (if dd = 0 then (if acD X 0 = 0 then (0 : Int32) else 1) else 1) := ⟨_, rfl⟩
      have hddv : dd = 0 ∨ dd = 1 := by rw [hddd]; exact u2
      have hnm : mode ≠ 1 → X = none ∧ m2 = m1 := fun h => by
        have := hi0n h
        subst this
        rw [hX, hm2, Nat.sub_self]
        exact ⟨rfl, rfl⟩
      have hnd1 : ∀ x, X = some x → ndk m1 S (nI q) (l + 1 - i0) i0 = some x := fun x h => by
        rw [show l + 1 - i0 = l - i0 + 1 by omega]
        exact ndk_app1 (by rw [← hX]; exact h)
      have hnd2 : X = none → ndk m1 S (nI q) (l + 1 - i0) i0 = if dd = 1 then some (l, k) else none := fun h => by
        rw [show l + 1 - i0 = l - i0 + 1 by omega, hddd]
        exact ndk_app2 (by rw [← hX]; exact h) (by omega) hfq
      have near : ∀ I, I o 1 = nI cnt → (∀ j, i0 ≤ j → j < l → LR B (o + 10 + 9 * j) I m1 j (S j)) → ∃ I3, jfx (X4_flushVictim_F1 o (nI (l + 1)) (nI q)) (fun _ _ => none) 1000 (nI (i0 + 1)) I = some I3 ∧ (∀ j, i0 ≤ j → j < l → LR B (o + 10 + 9 * j) I3 m2 j (S j)) ∧ (∀ r, (r < o + 10 ∨ o + 10 + 9 * l ≤ r) → I3 r = I r) ∧ (mode ≠ 1 → I3 = I) := by
        intro I h1 h2
        by_cases hm1' : mode = 1
        · obtain ⟨I3, c1, c2, c3, c4, c5, c6⟩ := near_sim (B := B) (i0 := i0) (S := S) ho hc4 hl hq (l - i0) 1000 i0 I m1 own 0 (Nat.le_refl _) (by omega) (by omega) (Or.inl rfl) h1 h2
          exact ⟨I3, c1, by rw [hm2]; exact c3, c4, fun h => absurd hm1' h⟩
        · have := hi0n hm1'
          refine ⟨I, ?_, by rw [(hnm hm1').2]; exact h2, fun _ _ => rfl, fun _ => rfl⟩
          rw [show (1000 : Nat) = 999 + 1 from rfl, jfx_s, X4_flushVictim_F1, if_pos (nI_le (by omega) (by omega))]
      obtain ⟨fm2, fp2⟩ : (∀ w, (w < 128 ∨ 128 + 140 * l ≤ w) → m2 w = m1 w) ∧ (∀ j k, j < l → k < 16 → m2 (140 + 140 * j + 7 * k) = m1 (140 + 140 * j + 7 * k) ∨ m2 (140 + 140 * j + 7 * k) = -1) := by
        by_cases hm1' : mode = 1
        · obtain ⟨I3, c1, c2, c3, c4, c5, c6⟩ := near_sim (B := B) (i0 := i0) (S := S) ho hc4 hl hq (l - i0) 1000 i0 I1 m1 own 0 (Nat.le_refl _) (by omega) (by omega) (Or.inl rfl) hc1 (fun j h1 h2 => hL1a j (by omega) (by omega))
          rw [hm2]
          exact ⟨c5, c6⟩
        · rw [(hnm hm1').2]
          exact ⟨fun _ _ => rfl, fun _ _ _ _ => Or.inl rfl⟩
      have goes : ∀ J : jI, J 165 = m1 → X7_goesOut recM 164 (nI l) (nI k) J = outsM recM (nI l) (nI k) (nI q) V D (jrow J 165 m2) := by
        intro J hJ
        rw [goes_e (by omega) (by omega) J hJ hm41 hmode hpg u2, ← hown, ← hddd]
        by_cases hm1' : mode = 1
        · obtain ⟨I3, c1, c2, -⟩ := near_sim (B := B) (i0 := i0) (S := S) ho hc4 hl hq (l - i0) 1000 i0 I1 m1 own 0 (Nat.le_refl _) (by omega) (by omega) (Or.inl rfl) hc1 (fun j h1 h2 => hL1a j (by omega) (by omega))
          have hz : i0 = 0 := by rw [hi0, if_pos hm1']
          rw [if_pos hm1', show (0 : Int32) = nI i0 by rw [hz]; rfl]
          have c2' := c2 J hJ (fun v34 v35 I36 => outsM recM (nI l) (nI k) (nI q) v34 (if dd = nI i0 then (if v35 = nI i0 then nI i0 else 1) else 1) I36)
          have hz2 : nI i0 = (0 : Int32) := by rw [hz]; rfl
          rw [hz2] at c2' ⊢
          rw [← hX, ← hm2, ← hV, ← hDD] at c2'
          exact c2'
        · obtain ⟨h1, h2⟩ := hnm hm1'
          rw [if_neg hm1', h2, ← hJ, jrow_id, hV, hDD, h1]
          rcases hddv with e | e <;> rw [e] <;> rfl
      have em3 : ∀ w, (w < 128 + 140 * l ∨ 268 + 140 * l ≤ w) → mOut m2 l k w = m2 w := fun w hw => by unfold mOut; simp (disch := omega) only [ju1_ne]
      have em3b : ∀ w, 128 + 140 * l ≤ w → mOut m2 l k w = mOut m1 l k w := fun w hw => by
        have e6 := fm2 (136 + 140 * l) (by omega)
        have ew := fm2 w (by omega)
        unfold mOut ju1
        rw [e6, ew]
      have outs : ∀ J : jI, J 165 = m2 → outsM recM (nI l) (nI k) (nI q) V D J = if D = 0 then some (jrow J 165 (mOut m2 l k)) else X7_flushes 164 (nI l) (nI q) V (jrow J 165 (mOut m2 l k)) := fun J hJ => by
        rw [outs_e hl hc4 (by omega) J hJ (by rw [fm2 _ (by omega)]; exact hcm1) (by rw [fm2 _ (by omega)]; exact hm41) hmode, if_neg hA]
      have hL1i : ∀ j, i0 ≤ j → j ≤ l → LR B (o + 10 + 9 * j) I1 m1 j (S j) := fun j h1 h2 => hL1a j (by omega) (by omega)
      have hL3 : ∀ l', l < l' → l' < cnt → LR B (o + 10 + 9 * l') I1 (mOut m2 l k) l' (S l') := fun l' h1 h2 => (hL1a l' (by omega) h2).congr (fun _ _ _ => rfl) (fun i a b => by rw [em3 i (by omega), fm2 i (by omega)])
      have hD3 : SD B o I1 (mOut m2 l k) := hD1.congr rfl rfl rfl rfl (fun i hi => by rw [em3 i (by omega), fm2 i (by omega)])
      obtain ⟨I2, m4, Y, Ym, g1, g2, g3, g4, g5, g6, g7, g8, g9, g10, g11, g12, g13⟩ : ∃ I2 m4 Y Ym, X4_flushVictim o (nI (l + 1)) (nI q) I1 = jfx (X4_flushVictim_F1 o (nI (l + 1)) (nI q)) (fun _ _ => none) 1000 (nI (i0 + 1)) I2 ∧ (∀ J : jI, J 165 = m1 → X7_goesOut recM 164 (nI l) (nI k) J = some (jrow J 165 m4)) ∧ LR B (o + 10 + 9 * l) Y Ym l (S l) ∧ (∀ r, o + 10 ≤ r → r < o + 10 + 9 * l + 9 → I2 r = Y r) ∧ (∀ r, r ≠ o + 10 + 9 * l → Y r = I1 r) ∧ (∀ w, 128 + 140 * l ≤ w → w < 268 + 140 * l → m4 w = mOut Ym l k w) ∧ (∀ w, 128 ≤ w → w < 128 + 140 * l → m4 w = m2 w) ∧ (∀ j, Ym (140 + 140 * l + 7 * j) = m1 (140 + 140 * l + 7 * j)) ∧
          (∀ j, l < j → j < cnt → LR B (o + 10 + 9 * j) I2 m4 j (S j)) ∧ SD B o I2 m4 ∧ KP o I1 I2 ∧ KM m1 m4 ∧ (∀ j k', l < j → j < 4 → k' < 16 → m4 (140 + 140 * j + 7 * k') = m1 (140 + 140 * j + 7 * k')) := by
        by_cases hD0 : D = 0
        · have hxn : ndk m1 S (nI q) (l + 1 - i0) i0 = none := by
            rw [hDD] at hD0
            rcases hddv with e | e
            · rw [e, if_pos rfl] at hD0
              cases hXX : X with
              | none => rw [hnd2 hXX, e]; rfl
              | some x => rw [hXX] at hD0; exact absurd (show (1 : Int32) = 0 from hD0) (by decide)
            · rw [e, if_neg (by decide)] at hD0; exact absurd hD0 (by decide)
          refine ⟨I1, mOut m2 l k, I1, m1, fluV0 ho hc4 hc1 hl hq hi0l hy hL1i hxn, fun J hJ => ?_, hL1, fun _ _ _ => rfl, fun _ _ => rfl, fun w h1 _ => em3b w h1, fun w h1 h2 => em3 w (by omega), fun _ => rfl, hL3, hD3, KP.rf, fun i hi => by rw [em3 i (by omega), fm2 i (by omega)], fun j k' h1 h2 h3 => by rw [em3 _ (by omega), fm2 _ (by omega)]⟩
          rw [goes J hJ, outs _ (jrow_self _ _ _), if_pos hD0, jrow_jrow]
        · obtain ⟨jj, kk, hxs, hVx⟩ : ∃ jj kk, ndk m1 S (nI q) (l + 1 - i0) i0 = some (jj, kk) ∧ V = m1 (140 + 140 * jj + 7 * kk + 1) := by
            cases hXX : X with
            | some x =>
              obtain ⟨jj, kk⟩ := x
              exact ⟨jj, kk, hnd1 _ hXX, by rw [hV, hXX]; rfl⟩
            | none =>
              refine ⟨l, k, ?_, by rw [hV, hXX, ← hown]; rfl⟩
              rw [hnd2 hXX]
              rcases hddv with e | e
              · rw [hDD, e, hXX] at hD0; exact absurd rfl hD0
              · rw [if_pos e]
          obtain ⟨I2, m4, f1, f2, f3, f4, f5, f6, f7, f8⟩ := flush_sim ho hc4 hc1 (by rw [em3 _ (by omega), fm2 _ (by omega)]; exact hcm1) hl hq V hL3 hD3
          have hnum := hL1.num (f := 8) (w := 7) (x := I1 (o + 10 + 9 * l) 8 + 1) (y := m1 (135 + 140 * l) + 1) (by omega) (by rw [hL1.1.2.2.2.2.2.2.2.2.2.1])
          rw [show 128 + 140 * l + 7 = 135 + 140 * l by omega] at hnum
          refine ⟨I2, m4, _, _, fluV1 ho hc4 hc1 hl hq hi0l hy hL1i hxs (by rw [← hVx]; exact f1), fun J hJ => ?_, hnum, fun r h1 h2 => f7.1 r (by omega) (by omega), fun r hr => jup_ne _ _ hr, fun w h1 h2 => ?_, fun w h1 h2 => ?_, fun j => ju1_ne _ _ (by omega), f3, f4, f5, fun i hi => ?_, fun j k' h1 h2 h3 => ?_⟩
          · rw [goes J hJ, outs _ (jrow_self _ _ _), if_neg hD0, f2 _ (jrow_self _ _ _), jrow_jrow, jrow_jrow]
          · rw [f7.2 w (by omega) (by omega), em3b (135 + 140 * l) (by omega)]
            by_cases w5 : w = 135 + 140 * l
            · subst w5
              unfold mOut
              simp (disch := omega) only [ju1_ne, ju1_eq]
            · rw [ju1_ne _ _ w5, em3b w h1]
              unfold mOut
              rw [ju1_ne _ _ (show 136 + 140 * l ≠ 135 + 140 * l by omega)]
              by_cases w6 : w = 136 + 140 * l
              · subst w6; rw [ju1_eq, ju1_eq]
              · rw [ju1_ne _ _ w6, ju1_ne _ _ w6]
                by_cases w0 : w = 140 + 140 * l + 7 * k
                · rw [w0, ju1_eq, ju1_eq]
                · rw [ju1_ne _ _ w0, ju1_ne _ _ w0, ju1_ne _ _ w5]
          · rw [f7.2 w h1 (by omega), ju1_ne _ _ (by omega), em3 w (by omega)]
          · rw [f6 i hi, em3 i (by omega), fm2 i (by omega)]
          · rw [f8 j k' h2 h3, em3 _ (by omega), fm2 _ (by omega)]
      obtain ⟨I3, n1, n2, n3, n4⟩ := near I2 (by rw [g11 o 1 (by omega)]; exact hc1) (fun j h1 h2 => (hL1a j (by omega) (by omega)).congr (fun r a b => by rw [g4 r (by omega) (by omega), g5 r (by omega)]) (fun _ _ _ => rfl))
      have hH4 : STH o cnt mode T I3 m4 := hH1.keep (fun j h1 h2 => by rw [n3 o (by omega)]; exact g11 o j (by omega)) (fun i h1 h2 h3 h4 => g12 i (by omega))
      obtain ⟨I', m', e1, e2, e3, e4, e5, e6, e7⟩ := fin_sim (a := i0) (B := B) (T := T) (I3 := I3) (m4 := m4) ho hc4 hl g3 hk hq (by rw [g8]; exact hpg) (fun r h1 h2 => by rw [n3 r (by omega), g4 r (by omega) h2]) g6 (fun j h1 h2 h3 => by
          by_cases e : j < l
          · exact (n2 j h1 e).congr (fun _ _ _ => rfl) (fun w a b => g7 w (by omega) (by omega))
          · exact (g9 j (by omega) h2).congr (fun r a b => n3 r (by omega)) (fun _ _ _ => rfl)) (g10.congr (n3 _ (by omega)) (by rw [n3 _ (by omega)]) (by rw [n3 _ (by omega)]) (by rw [n3 _ (by omega)]) (fun _ _ => rfl)) (fun j hj => by rw [g8]; exact hn1 j hj) hp hH4.2.2.2.2.1 hH4.2.2.2.2.2 hTB hB1 (v := v) hd (fun j hj => by rw [g8]; exact hfull1 j hj)
      have erow : ∀ r, (r < o + 10 + 9 * l ∨ o + 10 + 9 * l + 9 ≤ r) → r ≠ o → I' r = I3 r := fun r h1 h2 => by funext x; exact e5 r x h1 (Or.inl h2)
      have hKN : mode ≠ 1 → KN o l I I' m m' := fun h => by
        have hI3 := n4 h
        obtain ⟨-, hm21⟩ := hnm h
        exact ⟨fun r h1 h2 => by rw [erow r (by omega) (by omega), hI3, g4 r (by omega) (by omega), g5 r (by omega), fIr r (by omega) (by omega)], fun i h1 h2 => by rw [e6 i (by omega) (by omega), g7 i h1 h2, hm21, fm i (by omega) (by omega)]⟩
      have hhere : ∀ q', q' < 64 → inL m' l q' → q' = p ∨ inL m l q' := fun q' h1 h2 => by
        obtain ⟨j, j1, j2⟩ := h2
        rcases e7 j j1 with z | z | ⟨z1, z⟩
        · rw [z] at j2; exact Or.inl ((nI_eq (by omega) (by omega)).mp j2).symm
        · rw [z] at j2; exact absurd j2.symm (m1_ne (by omega))
        · rw [z, g8, fp] at j2
          exact Or.inr ⟨j, j1, j2⟩
      refine ⟨I', m', hclass I3 _ ?_ e1, hmodel m4 m' g2 e2, fun j h1 h2 => ?_, e4.mono (by omega), fun r j hr => ?_, fun i hi => ?_, hKN, fun h => ⟨fun l1 l2 q' a1 a2 a3 => ?_, fun l' q' h1 h2 h3 h4 => ?_⟩, fun h l' q' h2 h3 h4 => ?_⟩
      · rw [ho41, hc1]
        have hcl : X4_flushVictim o (nI (l + 1)) (nI q) I1 = some I3 := g1.trans n1
        by_cases h2 : mode = 2
        · rw [if_pos (by rw [h2]; rfl), if_pos (nI_le (by omega) (by omega))]; exact hcl
        · rw [if_neg (nI_cne (x := (2 : Int32)) (b := 2) rfl (by omega) (by omega) h2)]; exact hcl
      · by_cases e : i0 ≤ j
        · exact (e3 j e h2).mono (by omega)
        · have hne : mode ≠ 1 := fun h => by rw [hi0, if_pos h] at e; omega
          exact ((hL j h1 h2).near (hKN hne) (by omega)).mono (by omega)
      · rw [e5 r j (by omega) (by omega), n3 r (by omega), g11 r j hr, fI r j (by omega) (by omega)]
      · rw [e6 i (by omega) (by omega), g12 i hi, fm i (by omega) (by omega)]
      · omega
      · rcases hhere q' h3 (by rw [show l = l' by omega]; exact h4) with z | z
        · exact Or.inl z
        · exact Or.inr ⟨l, by omega, hl, z⟩
      · by_cases e : l' = l
        · subst e
          rcases hhere q' h3 h4 with z | z
          · exact Or.inr ⟨rfl, z⟩
          · exact Or.inl z
        · left
          obtain ⟨j, j1, j2⟩ := h4
          refine ⟨j, j1, ?_⟩
          rw [e6 _ (by omega) (by omega)] at j2
          by_cases e2 : l' < l
          · rw [g7 _ (by omega) (by omega)] at j2
            rcases fp2 l' j e2 j1 with z | z
            · rw [z, fpa l' j (by omega) j1] at j2; exact j2
            · rw [z] at j2; exact absurd j2.symm (m1_ne (by omega))
          · rw [g13 l' j (by omega) (by omega) j1, fpa l' j (by omega) j1] at j2; exact j2
theorem place_ok {o cnt mode T : Nat} {S : Nat → Nat} (ho : OB o) (hc4 : cnt ≤ 4) (hmode : mode ≤ 2) : ∀ r n l, l + r + 1 = cnt → r < n → PlaceOK o cnt mode T S l (X4_placeInto n o) (X7_places n 164) (r + 1) := by
  intro r
  induction r with
  | zero =>
    intro n l h1 h2
    obtain ⟨n, rfl⟩ : ∃ q, n = q + 1 := ⟨n - 1, by omega⟩
    exact place_step ho hc4 hmode (by omega) (fun h => by omega)
  | succ r ih =>
    intro n l h1 h2
    obtain ⟨n, rfl⟩ : ∃ q, n = q + 1 := ⟨n - 1, by omega⟩
    exact place_step ho hc4 hmode (by omega) (fun _ => ih n (l + 1) (by omega) (by omega))
