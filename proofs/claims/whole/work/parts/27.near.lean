/-! WHAT A PLACING DOES besides: the put itself, and the nearer levels that let the page out -/
def putsM (l p v d : Int32) (I3 : jI) : Option jI :=
(X7_found 164 l (-1 : Int32) I3).bind (fun (y5 : Int32) =>
(X7_slotAt l y5 (0 : Int32)).bind (fun (y7 : Int32) =>
if jin y7 784 then jlet (jup I3 (rfC 164 0) (y7).toNatClampNeg p) (fun (I10 : jI) =>
(X7_slotAt l y5 (1 : Int32)).bind (fun (y11 : Int32) =>
if jin y11 784 then jlet (jup I10 (rfC 164 0) (y11).toNatClampNeg v) (fun (I14 : jI) =>
(X7_slotAt l y5 (2 : Int32)).bind (fun (y15 : Int32) =>
if jin y15 784 then jlet (jup I14 (rfC 164 0) (y15).toNatClampNeg d) (fun (I18 : jI) =>
(X7_slotAt l y5 (3 : Int32)).bind (fun (y19 : Int32) =>
if jin (700 : Int32) 784 then (
if jin y19 784 then jlet (jup I18 (rfC 164 0) (y19).toNatClampNeg (I18 (rfC 164 0) ((700 : Int32)).toNatClampNeg)) (fun (I23 : jI) =>
(X7_slotAt l y5 (4 : Int32)).bind (fun (y24 : Int32) =>
if jin (693 : Int32) 784 then (
if jin y24 784 then jlet (jup I23 (rfC 164 0) (y24).toNatClampNeg (I23 (rfC 164 0) ((693 : Int32)).toNatClampNeg)) (fun (I28 : jI) =>
(X7_slotAt l y5 (5 : Int32)).bind (fun (y29 : Int32) =>
if jin y29 784 then jlet (jup I28 (rfC 164 0) (y29).toNatClampNeg (1 : Int32)) (fun (I32 : jI) =>
(X7_slotAt l y5 (6 : Int32)).bind (fun (y33 : Int32) =>
if jin y33 784 then jlet (jup I32 (rfC 164 0) (y33).toNatClampNeg (0 : Int32)) (fun (I36 : jI) =>
if jin (700 : Int32) 784 then (
if jin (700 : Int32) 784 then jlet (jup I36 (rfC 164 0) ((700 : Int32)).toNatClampNeg ((I36 (rfC 164 0) ((700 : Int32)).toNatClampNeg) + (1 : Int32))) (fun (I39 : jI) =>
(X7_at l (6 : Int32)).bind (fun (y40 : Int32) =>
if jin y40 784 then (
if jin y40 784 then jlet (jup I39 (rfC 164 0) (y40).toNatClampNeg ((I39 (rfC 164 0) (y40).toNatClampNeg) + (1 : Int32))) (fun (I44 : jI) =>
some I44) else none) else none)) else none) else none) else none)) else none)) else none) else none)) else none) else none)) else none)) else none)) else none))
theorem putC {o b k p : Nat} (hb : LB b) (hob : o + 10 ≤ b) (hk : k < 16) (hp : p < 64) (v d : Int32) (hd : d = 0 ∨ d = 1) (I : jI) :
    (X2_hold b (nI k) (nI p) (I o 13) (I o 7) I).bind (fun (I10 : jI) => (X2_change b (nI k) v d I10).bind (fun (I12 : jI) => jlet (jup I12 o 13 ((I12 o 13) + (1 : Int32))) (fun (I14 : jI) => some I14))) = some (jup (chgI b k v d (holI b k p (I o 13) (I o 7) I)) o 13 (I o 13 + 1)) := by
  rw [hold_e hb hk hp, ob_some, change_e hb hk v d hd, ob_some, jlet_d]
  have e : chgI b k v d (holI b k p (I o 13) (I o 7) I) o = I o := by unfold chgI holI; simp (disch := omega) only [jup_ne]
  rw [e]
theorem putM {l s k p : Nat} (hl : l < 4) (hs : s ≤ 16) (hp : p < 64) (m : Mn) (J : jI) (hJ : J 165 = m) (hm0 : m (128 + 140 * l) = nI s) (hfd : fnd m l s (-1) = some k) (v d : Int32) :
    putsM (nI l) (nI p) v d J = some (jrow J 165 (ju1 (mPut m l k p v d (m 700) (m 693)) 700 (m 700 + 1))) := by
  subst hJ
  obtain ⟨hk, -, -⟩ := fnd_some hfd
  unfold putsM
  rw [found_e hl hs hm0, hfd, show oI (some k) = nI k from rfl, ob_some, slotAt_e 0 l k 0 rfl, ob_some, if_pos (jin_N (by omega) (by omega)), jlet_d, slotAt_e 1 l k 1 rfl, ob_some, if_pos (jin_N (by omega) (by omega)), jlet_d, slotAt_e 2 l k 2 rfl, ob_some, if_pos (jin_N (by omega) (by omega)), jlet_d, slotAt_e 3 l k 3 rfl, ob_some, if_pos (by decide), if_pos (jin_N (by omega) (by omega)), jlet_d, slotAt_e 4 l k 4 rfl, ob_some, if_pos (by decide), if_pos (jin_N (by omega) (by omega)), jlet_d, slotAt_e 5 l k 5 rfl, ob_some, if_pos (jin_N (by omega) (by omega)), jlet_d, slotAt_e 6 l k 6 rfl, ob_some, if_pos (jin_N (by omega) (by omega)), jlet_d, if_pos (by decide), if_pos (by decide), jlet_d, at_e 6 l 6 rfl, ob_some, if_pos (jin_N (by omega) (by omega)), if_pos (jin_N (by omega) (by omega)), jlet_d]
  simp (disch := omega) only [rM0, cl_N, jup_def (J), jrow_jup, jrow_self, show ((700 : Int32)).toNatClampNeg = 700 from rfl, show ((693 : Int32)).toNatClampNeg = 693 from rfl, ju1_ne]
  unfold mPut
  rw [ju1_comm _ _ _ (show 700 ≠ 128 + 140 * l + 6 by omega), show 128 + 140 * l + 6 = 134 + 140 * l by omega, Nat.add_zero]
/-- THE PUT at an empty slot, on both sides -/
theorem put_sim {B o l s k p : Nat} (ho : OB o) (hl : l < 4) {I : jI} {m : Mn} (h : LR B (o + 10 + 9 * l) I m l s) (hD : SD B o I m) (hfd : fnd m l s (-1) = some k) (hn : ∀ j, j < 16 → ¬ m (140 + 140 * l + 7 * j) = nI p) (hp : p < 64) {T : Nat} (hT : I o 7 = nI T) (hTm : m 693 = nI T) (hTB : T ≤ B) (hB : 1 ≤ B) {v d : Int32} (hd : d = 0 ∨ d = 1) :
    ∃ I' m', (X2_hold (o + 10 + 9 * l) (nI k) (nI p) (I o 13) (I o 7) I).bind (fun (I10 : jI) => (X2_change (o + 10 + 9 * l) (nI k) v d I10).bind (fun (I12 : jI) => jlet (jup I12 o 13 ((I12 o 13) + (1 : Int32))) (fun (I14 : jI) => some I14))) = some I' ∧ (∀ J : jI, J 165 = m → putsM (nI l) (nI p) v d J = some (jrow J 165 m')) ∧ LR (B + 1) (o + 10 + 9 * l) I' m' l s ∧ SD (B + 1) o I' m' ∧
      (∀ r j, (r < o + 10 + 9 * l ∨ o + 10 + 9 * l + 9 ≤ r) → (r ≠ o ∨ j ≠ 13) → I' r j = I r j) ∧ (∀ i, i ≠ 700 → (i < 128 + 140 * l ∨ 268 + 140 * l ≤ i) → m' i = m i) ∧ (∀ j, j < 16 → m' (140 + 140 * l + 7 * j) = nI p ∨ m' (140 + 140 * l + 7 * j) = m (140 + 140 * l + 7 * j)) := by
  obtain ⟨d1, d2, d3, x, d4, d5, d6⟩ := hD
  obtain ⟨hk, he, -⟩ := fnd_some hfd
  have hs := h.1.1
  have hP := h.put (v := v) hk he hn hp d4 hTB hB hd
  have er : ∀ r j, (r < o + 10 + 9 * l ∨ o + 10 + 9 * l + 9 ≤ r) → chgI (o + 10 + 9 * l) k v d (holI (o + 10 + 9 * l) k p (nI x) (nI T) I) r j = I r j := fun r j hr => by unfold chgI holI; simp (disch := omega) only [jup_ne]
  have em : ∀ i, (i < 128 + 140 * l ∨ 268 + 140 * l ≤ i) → mPut m l k p v d (nI x) (nI T) i = m i := fun i hi => by unfold mPut; simp (disch := omega) only [ju1_ne]
  refine ⟨_, _, putC (LB_o ho hl) (by omega) (by omega) hp v d hd I, fun J hJ => putM hl hs.2 hp m J hJ h.1.2.1.2 hfd v d, ?_, ⟨fun q hq => ?_, ?_, ?_, x + 1, by omega, ?_, ?_⟩, fun r j hr hj => ?_, fun i hi hi2 => ?_, fun j hj => ?_⟩ <;> rw [d5, d6, hT, hTm] at *
  · refine (hP.congr (fun r a b => jup_ne _ _ (by omega)) (fun i a b => ju1_ne _ _ (by omega))).mono (by omega)
  · rw [jup_ne _ _ (by omega), er _ _ (by omega), ju1_ne _ _ (by omega), em _ (by omega)]; exact d1 q hq
  · rw [jup_nj _ _ (by omega), er _ _ (by omega), ju1_ne _ _ (by omega), em _ (by omega)]; exact d2
  · rw [jup_ne _ _ (by omega), er _ _ (by omega), ju1_ne _ _ (by omega), em _ (by omega)]; exact d3
  · rw [jup_q, ju1_eq]; exact nI_1 x
  · rw [ju1_eq]; exact nI_1 x
  · rw [jup_nj _ _ hj, er _ _ hr]
  · rw [ju1_ne _ _ hi, em _ hi2]
  · rw [ju1_ne _ _ (by omega)]
    by_cases e : j = k
    · subst e; left; unfold mPut; simp (disch := omega) only [ju1_ne, ju1_eq]
    · right; unfold mPut; simp (disch := omega) only [ju1_ne]
/-! nearer levels: the nearest dirty copy, and letting the page out of each -/
def ndk (m : Mn) (S : Nat → Nat) (q : Int32) : Nat → Nat → Option (Nat × Nat)
  | 0, _ => none
  | d + 1, i => match fnd m i (S i) q with
    | some k => if m (140 + 140 * i + 7 * k + 2) = 1 then some (i, k) else ndk m S q d (i + 1)
    | none => ndk m S q d (i + 1)
theorem fnd_congr {m m' : Mn} {l s : Nat} {p : Int32} (hs : s ≤ 16) (h : ∀ i, 128 + 140 * l ≤ i → i < 268 + 140 * l → m' i = m i) : fnd m' l s p = fnd m l s p := by
  unfold fnd
  exact ffr_congr (fun j _ hj => by rw [h _ (by omega) (by omega)])
theorem ndk_n {m : Mn} {S : Nat → Nat} {q : Int32} {d i : Nat} (h : fnd m i (S i) q = none) : ndk m S q (d + 1) i = ndk m S q d (i + 1) := by
  show (match fnd m i (S i) q with | some k => if m (140 + 140 * i + 7 * k + 2) = 1 then some (i, k) else ndk m S q d (i + 1) | none => ndk m S q d (i + 1)) = _
  rw [h]
theorem ndk_k {m : Mn} {S : Nat → Nat} {q : Int32} {d i k : Nat} (h : fnd m i (S i) q = some k) : ndk m S q (d + 1) i = if m (140 + 140 * i + 7 * k + 2) = 1 then some (i, k) else ndk m S q d (i + 1) := by
  show (match fnd m i (S i) q with | some k => if m (140 + 140 * i + 7 * k + 2) = 1 then some (i, k) else ndk m S q d (i + 1) | none => ndk m S q d (i + 1)) = _
  rw [h]
theorem ndk_congr {m m' : Mn} {S : Nat → Nat} {q : Int32} : ∀ {d i : Nat}, (∀ j, i ≤ j → j < i + d → S j ≤ 16 ∧ ∀ w, 128 + 140 * j ≤ w → w < 268 + 140 * j → m' w = m w) → ndk m' S q d i = ndk m S q d i
  | 0, _, _ => rfl
  | d + 1, i, h => by
    obtain ⟨h1, h2⟩ := h i (by omega) (by omega)
    unfold ndk
    rw [fnd_congr h1 h2, ndk_congr (d := d) (i := i + 1) (fun j a b => h j (by omega) (by omega))]
    cases hf : fnd m i (S i) q with
    | none => rfl
    | some k =>
      obtain ⟨k1, -⟩ := fnd_some hf
      simp only
      rw [h2 _ (by omega) (by omega)]
theorem ndk_some {m : Mn} {S : Nat → Nat} {q : Int32} : ∀ {d i j k : Nat}, ndk m S q d i = some (j, k) → i ≤ j ∧ j < i + d ∧ fnd m j (S j) q = some k ∧ m (140 + 140 * j + 7 * k + 2) = 1
  | 0, i, j, k, h => by cases h
  | d + 1, i, j, k, h => by
    unfold ndk at h
    cases hf : fnd m i (S i) q with
    | none =>
      rw [hf] at h
      obtain ⟨a, b, c⟩ := ndk_some (d := d) (i := i + 1) h
      exact ⟨by omega, by omega, c⟩
    | some k2 =>
      rw [hf] at h
      simp only at h
      by_cases e : m (140 + 140 * i + 7 * k2 + 2) = 1
      · rw [if_pos e] at h
        cases h
        exact ⟨by omega, by omega, hf, e⟩
      · rw [if_neg e] at h
        obtain ⟨a, b, c⟩ := ndk_some (d := d) (i := i + 1) h
        exact ⟨by omega, by omega, c⟩
def lvR (o : Nat) : Option (Nat × Nat) → Nat
  | some (j, _) => o + 10 + 9 * j
  | none => 0
theorem nearD_e {B o l cnt q : Nat} (ho : OB o) {I : jI} {m : Mn} {S : Nat → Nat} (hc4 : cnt ≤ 4) (hcI : I o 1 = nI cnt) (hl : l < cnt) (hq : q < 64) : ∀ d n i, i + d = l + 1 → d < n → (∀ j, i ≤ j → j ≤ l → LR B (o + 10 + 9 * j) I m j (S j)) → jfx (X4_nearestDirty_F1 o (nI (l + 1)) (nI q) I) (fun _ => none) n (nI (i + 1)) = some (lvR o (ndk m S (nI q) d i)) := by
  intro d
  induction d with
  | zero =>
    intro n i h1 h2 hL
    obtain ⟨n, rfl⟩ : ∃ q, n = q + 1 := ⟨n - 1, by omega⟩
    rw [jfx_s, X4_nearestDirty_F1, if_pos (nI_lt (by omega) (by omega))]
    rfl
  | succ d ih =>
    intro n i h1 h2 hL
    obtain ⟨n, rfl⟩ : ∃ q, n = q + 1 := ⟨n - 1, by omega⟩
    have hb : LB (o + 10 + 9 * i) := LB_o ho (by omega)
    have hLi := hL i (by omega) (by omega)
    have hs := hLi.1.1
    have hi := ih n (i + 1) (by omega) (by omega) (fun j a b => hL j (by omega) b)
    rw [jfx_s, X4_nearestDirty_F1, if_neg (nI_nlt (by omega) (by omega)), levelAt_e ho I hcI hc4 (show i < cnt by omega), ob_some, jlet_d, if_neg hb.1, hLi.slotOf hb hq, ob_some, show nI (i + 1) + (1 : Int32) = nI (i + 1 + 1) from nI_1 _, hi]
    cases hf : fnd m i (S i) (nI q) with
    | none => rw [show oI none = (-1 : Int32) from rfl, isDirty_m1, ob_some, if_pos rfl, ndk_n hf]
    | some k =>
      obtain ⟨k1, k2, -⟩ := fnd_some hf
      obtain ⟨-, -, -, u1, u2⟩ := hLi.slot (show k < 16 by omega) k2 hq
      show (X2_isDirty (o + 10 + 9 * i) (nI k) I).bind _ = _
      rw [isDirty_e hb (by omega) I (by rw [u1]; exact u2), ob_some, u1, ndk_k hf]
      rcases u2 with e | e
      · rw [if_pos e, if_neg (by rw [e]; decide)]
      · rw [if_neg (by rw [e]; decide), if_pos e]
        rfl
def acV (m : Mn) (x : Option (Nat × Nat)) (v41 v42 : Int32) : Int32 := if v42 = 0 then (match x with
  | some (j, k) => m (140 + 140 * j + 7 * k + 1)
  | none => v41) else v41
def acD (x : Option (Nat × Nat)) (v42 : Int32) : Int32 := if v42 = 0 then (match x with
  | some _ => 1
  | none => 0) else v42
def mNear (S : Nat → Nat) (q : Int32) : Nat → Nat → Mn → Mn
  | 0, _, m => m
  | d + 1, i, m => mNear S q d (i + 1) (match fnd m i (S i) q with
    | some k => mOut m i k
    | none => m)
theorem mNear_n {m : Mn} {S : Nat → Nat} {q : Int32} {d i : Nat} (h : fnd m i (S i) q = none) : mNear S q (d + 1) i m = mNear S q d (i + 1) m := by
  show mNear S q d (i + 1) (match fnd m i (S i) q with | some k => mOut m i k | none => m) = _
  rw [h]
theorem mNear_k {m : Mn} {S : Nat → Nat} {q : Int32} {d i k : Nat} (h : fnd m i (S i) q = some k) : mNear S q (d + 1) i m = mNear S q d (i + 1) (mOut m i k) := by
  show mNear S q d (i + 1) (match fnd m i (S i) q with | some k => mOut m i k | none => m) = _
  rw [h]
theorem near_sim {B o l cnt q i0 : Nat} (ho : OB o) {S : Nat → Nat} (hc4 : cnt ≤ 4) (hl : l < cnt) (hq : q < 64) : ∀ d n i (I : jI) (m : Mn) (v41 v42 : Int32), i0 ≤ i → i + d = l → d < n → (v42 = 0 ∨ v42 = 1) → I o 1 = nI cnt → (∀ j, i0 ≤ j → j < l → LR B (o + 10 + 9 * j) I m j (S j)) →
    ∃ I', jfx (X4_flushVictim_F1 o (nI (l + 1)) (nI q)) (fun _ _ => none) n (nI (i + 1)) I = some I' ∧
      (∀ J : jI, J 165 = m → ∀ k37, jfx (X7_goesOut_F1 164 (nI l) (nI q) k37) (fun _ _ _ _ => none) n v41 v42 (nI i) J = k37 (acV m (ndk m S (nI q) d i) v41 v42) (acD (ndk m S (nI q) d i) v42) (jrow J 165 (mNear S (nI q) d i m))) ∧
      (∀ j, i0 ≤ j → j < l → LR B (o + 10 + 9 * j) I' (mNear S (nI q) d i m) j (S j)) ∧ (∀ r, (r < o + 10 ∨ o + 10 + 9 * l ≤ r) → I' r = I r) ∧ (∀ w, (w < 128 ∨ 128 + 140 * l ≤ w) → mNear S (nI q) d i m w = m w) ∧ (∀ j k, j < l → k < 16 → mNear S (nI q) d i m (140 + 140 * j + 7 * k) = m (140 + 140 * j + 7 * k) ∨ mNear S (nI q) d i m (140 + 140 * j + 7 * k) = -1) := by
  intro d
  induction d with
  | zero =>
    intro n i I m v41 v42 h0 h1 h2 hv hcI hL
    obtain ⟨n, rfl⟩ : ∃ q, n = q + 1 := ⟨n - 1, by omega⟩
    refine ⟨I, ?_, fun J hJ k37 => ?_, hL, fun _ _ => rfl, fun _ _ => rfl, fun _ _ _ _ => Or.inl rfl⟩
    · rw [jfx_s, X4_flushVictim_F1, if_pos (nI_le (by omega) (by omega))]
    · rw [jfx_s, X7_goesOut_F1, if_pos (nI_le (by omega) (by omega)), ← hJ, show mNear S (nI q) 0 i (J 165) = J 165 from rfl, jrow_id]
      unfold ndk acV acD
      rcases hv with rfl | rfl <;> rfl
  | succ d ih =>
    intro n i I m v41 v42 h0 h1 h2 hv hcI hL
    obtain ⟨n, rfl⟩ : ∃ q, n = q + 1 := ⟨n - 1, by omega⟩
    have hb : LB (o + 10 + 9 * i) := LB_o ho (by omega)
    have hLi := hL i (by omega) (by omega)
    have hs := hLi.1.1
    have hso := hLi.slotOf hb hq
    cases hf : fnd m i (S i) (nI q) with
    | none =>
      rw [mNear_n hf]
      obtain ⟨I', e1, e2, e3⟩ := ih n (i + 1) I m v41 v42 (by omega) (by omega) (by omega) hv hcI hL
      refine ⟨I', ?_, fun J hJ k37 => ?_, e3⟩
      · rw [jfx_s, X4_flushVictim_F1, if_neg (nI_ge (by omega) (by omega)), levelAt_e ho I hcI hc4 (show i < cnt by omega), ob_some, jlet_d, if_neg hb.1, hso, hf, ob_some, show oI none = (-1 : Int32) from rfl, letOut_m1, ob_some, show nI (i + 1) + (1 : Int32) = nI (i + 1 + 1) from nI_1 _]
        exact e1
      · rw [jfx_s, X7_goesOut_F1, if_neg (nI_ge (by omega) (by omega)), found_e (by omega) hs.2 (by rw [hJ]; exact hLi.1.2.1.2), hJ, hf, ob_some, jlet_d, if_pos (show oI none < 0 by decide), show nI i + (1 : Int32) = nI (i + 1) from nI_1 _, ndk_n hf]
        exact e2 J hJ k37
    | some k =>
      obtain ⟨k1, k2, -⟩ := fnd_some hf
      obtain ⟨-, -, u0, u1, u2⟩ := hLi.slot (show k < 16 by omega) k2 hq
      have hO := hLi.out (show k < 16 by omega) hq k2
      have er : ∀ r, (r < o + 10 + 9 * i ∨ o + 10 + 9 * i + 9 ≤ r) → lotI (o + 10 + 9 * i) k q I r = I r := fun r hr => by unfold lotI; simp (disch := omega) only [jup_ne]
      have em : ∀ w, (w < 128 + 140 * i ∨ 268 + 140 * i ≤ w) → mOut m i k w = m w := fun w hw => by unfold mOut; simp (disch := omega) only [ju1_ne]
      have hcg : ndk (mOut m i k) S (nI q) d (i + 1) = ndk m S (nI q) d (i + 1) := ndk_congr (fun j a b => ⟨(hL j (by omega) (by omega)).1.1.2, fun w a b => em w (by omega)⟩)
      have step : ∀ w41 w42 : Int32, (w42 = 0 ∨ w42 = 1) → _ := fun w41 w42 hw => ih n (i + 1) (lotI (o + 10 + 9 * i) k q I) (mOut m i k) w41 w42 (by omega) (by omega) (by omega) hw (by rw [er _ (by omega)]; exact hcI) (fun j hj0 hj => by
        by_cases e : j = i
        · subst e; exact hO
        · exact (hL j hj0 hj).congr (fun r a b => er r (by omega)) (fun w a b => em w (by omega)))
      have hval : ∀ j k2, ndk m S (nI q) d (i + 1) = some (j, k2) → mOut m i k (140 + 140 * j + 7 * k2 + 1) = m (140 + 140 * j + 7 * k2 + 1) := fun j k2 hj => by
        obtain ⟨a, b, c, -⟩ := ndk_some hj
        have := (fnd_some c).1
        have := (hL j (by omega) (by omega)).1.1
        exact em _ (by omega)
      have eN : ndk m S (nI q) (d + 1) i = if m (140 + 140 * i + 7 * k + 2) = 1 then some (i, k) else ndk m S (nI q) d (i + 1) := ndk_k hf
      obtain ⟨w41, w42, hw, hwa⟩ : ∃ w41 w42 : Int32, (w42 = 0 ∨ w42 = 1) ∧ (w41 = (if m (140 + 140 * i + 7 * k + 2) = 1 ∧ v42 = 0 then m (140 + 140 * i + 7 * k + 1) else v41) ∧ w42 = (if m (140 + 140 * i + 7 * k + 2) = 1 then 1 else v42)) := ⟨_, _, by split; exact Or.inr rfl; exact hv, rfl, rfl⟩
      rw [mNear_k hf]
      obtain ⟨I', e1, e2, e3, e4, e5, e6⟩ := step w41 w42 hw
      generalize mNear S (nI q) d (i + 1) (mOut m i k) = m' at e1 e2 e3 e4 e5 e6 ⊢
      refine ⟨I', ?_, fun J hJ k37 => ?_, e3, fun r hr => ?_, fun w hw => ?_, fun j k2 hj hk2 => ?_⟩
      · rw [jfx_s, X4_flushVictim_F1, if_neg (nI_ge (by omega) (by omega)), levelAt_e ho I hcI hc4 (show i < cnt by omega), ob_some, jlet_d, if_neg hb.1, hso, hf, ob_some, show oI (some k) = nI k from rfl, letOut_e hb (by omega) hq I (by rw [(hLi.2.1 k (by omega)).1, k2]), ob_some, show nI (i + 1) + (1 : Int32) = nI (i + 1 + 1) from nI_1 _]
        exact e1
      · rw [jfx_s, X7_goesOut_F1, if_neg (nI_ge (by omega) (by omega)), found_e (by omega) hs.2 (by rw [hJ]; exact hLi.1.2.1.2), hJ, hf, ob_some, jlet_d, if_neg (show ¬ oI (some k) < 0 from nI_pos (by omega)), show oI (some k) = nI k from rfl, note_e 2 i k 2 rfl (by omega), ob_some, hJ, jlet_d, jlet_d]
        have hE : ∀ (f : jI → Option jI), (X7_empties 164 (nI i) (nI k) J).bind (fun (I64 : jI) =>
          (X7_at (nI i) (8 : Int32)).bind (fun (y66 : Int32) =>
          if jin y66 784 then (
          if jin y66 784 then jlet (jup I64 (rfC 164 0) (y66).toNatClampNeg ((I64 (rfC 164 0) (y66).toNatClampNeg) + (1 : Int32))) (fun (I70 : jI) => f I70) else none) else none)) = f (jrow J 165 (mOut m i k)) := fun f => by
          unfold X7_empties
          rw [slotAt_e 0 i k 0 rfl, ob_some, if_pos (jin_N (by omega) (by omega)), jlet_d, ob_some, at_e 8 i 8 rfl, ob_some, if_pos (jin_N (by omega) (by omega)), if_pos (jin_N (by omega) (by omega)), jlet_d]
          simp (disch := omega) only [rM0, cl_N, jup_def J, jrow_jup, jrow_self, ju1_ne, hJ]
          unfold mOut
          rw [show 128 + 140 * i + 8 = 136 + 140 * i by omega, Nat.add_zero]
        have eK := e2 (jrow J 165 (mOut m i k)) (jrow_self _ _ _) k37
        rw [jrow_jrow, hcg] at eK
        rw [eN]
        have nI1 : nI i + (1 : Int32) = nI (i + 1) := nI_1 _
        simp only [nI1]
        rcases u2 with u | u
        · simp only [u, show ¬ (0 : Int32) = 1 by decide, if_false, false_and] at hwa ⊢
          obtain ⟨rfl, rfl⟩ := hwa
          have ev : (if w42 = 0 then (if (0 : Int32) = 0 then (0 : Int32) else 1) else 1) = w42 := by rcases hv with rfl | rfl <;> rfl
          simp only [if_true] at ev ⊢
          rw [jlet_d, ev, hE, eK]
          unfold acV
          rcases hv with rfl | rfl
          · simp only [if_true]
            cases hx : ndk m S (nI q) d (i + 1) with
            | none => rfl
            | some jk =>
              obtain ⟨j2, k3⟩ := jk
              simp only
              rw [hval j2 k3 hx]
          · rfl
        · simp only [u, if_true, true_and] at hwa ⊢
          rcases hv with rfl | rfl
          · simp only [if_true, show ¬ (1 : Int32) = 0 by decide, if_false] at hwa ⊢
            obtain ⟨rfl, rfl⟩ := hwa
            rw [note_e 1 i k 1 rfl (by omega), ob_some, hJ, jlet_d, hE, eK]
            rfl
          · simp only [if_true, show ¬ (1 : Int32) = 0 by decide, if_false] at hwa ⊢
            obtain ⟨rfl, rfl⟩ := hwa
            rw [jlet_d, hE, eK]
            rfl
      · rw [e4 r hr, er r (by omega)]
      · rw [e5 w hw, em w (by omega)]
      · have h0 : mOut m i k (140 + 140 * j + 7 * k2) = m (140 + 140 * j + 7 * k2) ∨ mOut m i k (140 + 140 * j + 7 * k2) = -1 := by
          unfold mOut
          rw [ju1_ne _ _ (by omega)]
          by_cases e : 140 + 140 * j + 7 * k2 = 140 + 140 * i + 7 * k
          · rw [e, ju1_eq]; exact Or.inr rfl
          · rw [ju1_ne _ _ e]; exact Or.inl rfl
        rcases e6 j k2 hj hk2 with a | a
        · rw [a]; exact h0
        · exact Or.inr a
