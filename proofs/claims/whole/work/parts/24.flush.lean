/-! A STORE beside the model's row -/
def SD (B o : Nat) (I : jI) (m : Mn) : Prop := (∀ p, p < 64 → I (o + 2) p = m p) ∧ I o 11 = m 697 ∧ I (o + 3) 0 = m 699 ∧ ∃ x, x ≤ B ∧ I o 13 = nI x ∧ m 700 = nI x
/-- what placing leaves as it is -/
def KP (o : Nat) (I I' : jI) : Prop := ∀ r j, (r < o ∨ o + 46 ≤ r ∨ (o + 4 ≤ r ∧ r ≤ o + 9) ∨ r = o + 1 ∨ (r = o ∧ j ≠ 11 ∧ j ≠ 13) ∨ (r = o + 3 ∧ j ≠ 0)) → I' r j = I r j
def KM (m m' : Mn) : Prop := ∀ i, ((64 ≤ i ∧ i < 128) ∨ (688 ≤ i ∧ i ≠ 697 ∧ i ≠ 699 ∧ i ≠ 700)) → m' i = m i
theorem KP.rf {o : Nat} {I : jI} : KP o I I := fun _ _ _ => rfl
theorem KM.rf {m : Mn} : KM m m := fun _ _ => rfl
theorem KP.tr {o : Nat} {I I' I'' : jI} (h : KP o I I') (h2 : KP o I' I'') : KP o I I'' := fun r j hr => (h2 r j hr).trans (h r j hr)
theorem KM.tr {m m' m'' : Mn} (h : KM m m') (h2 : KM m' m'') : KM m m'' := fun i hi => (h2 i hi).trans (h i hi)
/-- levels nearer than l stay as they are, on both sides -/
def KN (o l : Nat) (I I' : jI) (m m' : Mn) : Prop := (∀ r, o + 10 ≤ r → r < o + 10 + 9 * l → I' r = I r) ∧ ∀ i, 128 ≤ i → i < 128 + 140 * l → m' i = m i
theorem KN.rf {o l : Nat} {I : jI} {m : Mn} : KN o l I I m m := ⟨fun _ _ _ => rfl, fun _ _ _ => rfl⟩
theorem KN.tr {o l : Nat} {I I' I'' : jI} {m m' m'' : Mn} (h : KN o l I I' m m') (h2 : KN o l I' I'' m' m'') : KN o l I I'' m m'' := ⟨fun r a b => (h2.1 r a b).trans (h.1 r a b), fun i a b => (h2.2 i a b).trans (h.2 i a b)⟩
theorem KN.less {o l l' : Nat} {I I' : jI} {m m' : Mn} (h : KN o l I I' m m') (hl : l' ≤ l) : KN o l' I I' m m' := ⟨fun r a b => h.1 r a (by omega), fun i a b => h.2 i a (by omega)⟩
theorem LR.near {B o l l' s : Nat} {I I' : jI} {m m' : Mn} (h : LR B (o + 10 + 9 * l') I m l' s) (hk : KN o l I I' m m') (hl : l' < l) : LR B (o + 10 + 9 * l') I' m' l' s :=
  h.congr (fun r a b => hk.1 r (by omega) (by omega)) (fun i a b => hk.2 i (by omega) (by omega))
/-- the pages of all levels stay -/
def PGS (m m' : Mn) : Prop := ∀ l k, l < 4 → k < 16 → m' (140 + 140 * l + 7 * k) = m (140 + 140 * l + 7 * k)
/-- a level that isn't touched by what is done to another one, or to the store's cells -/
theorem LR.other {B o l l' s : Nat} {I I' : jI} {m m' : Mn} (h : LR B (o + 10 + 9 * l') I m l' s) (hI : ∀ r, (o + 10 + 9 * l') ≤ r → r < (o + 10 + 9 * l') + 9 → I' r = I r) (hm : ∀ i, 128 + 140 * l' ≤ i → i < 268 + 140 * l' → m' i = m i) : LR B (o + 10 + 9 * l') I' m' l' s := h.congr hI hm
theorem fluK (m : Mn) (J : jI) (hJ : J 165 = m) {p : Nat} (hp : p < 64) (v : Int32) : (if jin (nI p) 784 then jlet (jup J (rfC 164 0) (nI p).toNatClampNeg v) (fun (I9 : jI) =>
if jin (697 : Int32) 784 then (
if jin (697 : Int32) 784 then jlet (jup I9 (rfC 164 0) ((697 : Int32)).toNatClampNeg ((I9 (rfC 164 0) ((697 : Int32)).toNatClampNeg) + (1 : Int32))) (fun (I12 : jI) =>
some I12) else none) else none) else none) = some (jrow J 165 (ju1 (ju1 m p v) 697 (m 697 + 1))) := by
  subst hJ
  rw [if_pos (jin_N (by omega) (by omega)), jlet_d, if_pos (by decide), if_pos (by decide), jlet_d, rM0, cl_N (by omega), show ((697 : Int32)).toNatClampNeg = 697 from rfl, jup_q, ju1_ne _ _ (by omega), jup_def J 165, jrow_jup]
theorem chgK (m : Mn) (J : jI) (hJ : J 165 = m) {l k : Nat} (hl : l < 4) (hk : k < 16) (v : Int32) : (X7_slotAt (nI l) (nI k) (1 : Int32)).bind (fun (y16 : Int32) =>
if jin y16 784 then jlet (jup J (rfC 164 0) (y16).toNatClampNeg v) (fun (I19 : jI) =>
(X7_slotAt (nI l) (nI k) (2 : Int32)).bind (fun (y20 : Int32) =>
if jin y20 784 then jlet (jup I19 (rfC 164 0) (y20).toNatClampNeg (1 : Int32)) (fun (I23 : jI) =>
some I23) else none)) else none) = some (jrow J 165 (mChg m l k v 1)) := by
  subst hJ
  rw [slotAt_e 1 l k 1 rfl, ob_some, if_pos (jin_N (by omega) (by omega)), jlet_d, slotAt_e 2 l k 2 rfl, ob_some, if_pos (jin_N (by omega) (by omega)), jlet_d, rM0, cl_N (by omega), cl_N (by omega), jup_def J 165, jrow_jup]
  rfl
theorem ad_e (I : jI) {y x : Nat} (h : y < 784) : y = x → (if jin (nI y) 784 then jlet (jup I (rfC 164 0) (nI y).toNatClampNeg ((I (rfC 164 0) (nI y).toNatClampNeg) + (1 : Int32))) (fun (I5 : jI) => some I5) else none) = some (jrow I 165 (ju1 (I 165) x (I 165 x + 1))) := by
  intro e
  subst e
  rw [if_pos (jin_N h (by omega)), jlet_d, rM0, cl_N (by omega)]
  rfl
theorem oI_neg {x : Option Nat} (h : ∀ k, x = some k → k < 16) : (oI x < 0) = (x = none) := by
  cases x with
  | none => exact propext ⟨fun _ => rfl, fun _ => by decide⟩
  | some k => have := h k rfl; exact propext ⟨fun q => absurd q (nI_pos (by omega)), fun q => by cases q⟩
/-- A VALUE goes from level l to the next one below that has the page, or to memory -/
theorem flush_sim {B o l cnt p : Nat} (ho : OB o) {I : jI} {m : Mn} {S : Nat → Nat} (hc4 : cnt ≤ 4) (hcI : I o 1 = nI cnt) (hcm : m 688 = nI cnt) (hl : l < cnt) (hp : p < 64) (v : Int32)
    (hL : ∀ l', l < l' → l' < cnt → LR B (o + 10 + 9 * l') I m l' (S l')) (hD : SD B o I m) :
    ∃ I' m', X4_flush o (nI (l + 1)) (nI p) v I = some I' ∧ (∀ J : jI, J 165 = m → X7_flushes 164 (nI l) (nI p) v J = some (jrow J 165 m')) ∧
      (∀ l', l < l' → l' < cnt → LR B (o + 10 + 9 * l') I' m' l' (S l')) ∧ SD B o I' m' ∧ KP o I I' ∧ KM m m' ∧ KN o (l + 1) (jup I (o + 10 + 9 * l) 8 (I (o + 10 + 9 * l) 8 + 1)) I' (ju1 m (135 + 140 * l) (m (135 + 140 * l) + 1)) m' ∧ PGS m m' := by
  have hbl : (o + 10 + 9 * l) ≠ o := by show o + 10 + 9 * l ≠ o; omega
  generalize hI1 : jup I (o + 10 + 9 * l) 8 (I (o + 10 + 9 * l) 8 + 1) = I1
  generalize hm1 : ju1 m (135 + 140 * l) (m (135 + 140 * l) + 1) = m1
  have hc1 : I1 o 1 = nI cnt := by rw [← hI1, jup_ne _ _ (Ne.symm hbl)]; exact hcI
  have hcm1 : m1 688 = nI cnt := by rw [← hm1, ju1_ne _ _ (by omega)]; exact hcm
  have hL1 : ∀ l', l < l' → l' < cnt → LR B (o + 10 + 9 * l') I1 m1 l' (S l') := fun l' a b => (hL l' a b).congr (fun r h1 h2 => by rw [← hI1]; exact jup_ne _ _ (by show r ≠ o + 10 + 9 * l; omega)) (fun i h1 h2 => by rw [← hm1]; exact ju1_ne _ _ (by omega))
  have hD1 : SD B o I1 m1 := by
    obtain ⟨d1, d2, d3, x, d4, d5, d6⟩ := hD
    refine ⟨fun q hq => ?_, ?_, ?_, x, d4, ?_, ?_⟩
    · rw [← hI1, ← hm1, jup_ne _ _ (by show o + 2 ≠ o + 10 + 9 * l; omega), ju1_ne _ _ (by omega)]; exact d1 q hq
    · rw [← hI1, ← hm1, jup_ne _ _ (by show o ≠ o + 10 + 9 * l; omega), ju1_ne _ _ (by omega)]; exact d2
    · rw [← hI1, ← hm1, jup_ne _ _ (by show o + 3 ≠ o + 10 + 9 * l; omega), ju1_ne _ _ (by omega)]; exact d3
    · rw [← hI1, jup_ne _ _ (by show o ≠ o + 10 + 9 * l; omega)]; exact d5
    · rw [← hm1, ju1_ne _ _ (by omega)]; exact d6
  have key : ∀ d n j, j + d = cnt → l < j → d < n → ∃ I' m', jfx (X4_flush_F1 o (nI p) v I1) (fun _ => none) n (nI (j + 1)) = some I' ∧
      (∀ J : jI, J 165 = m1 → ∀ (k7 : Option jI) (k15 : Int32 → Int32 → Option jI), k7 = some (jrow J 165 (ju1 (ju1 m1 p v) 697 (m1 697 + 1))) → (∀ l' k, l' < 4 → k < 16 → k15 (nI l') (nI k) = some (jrow J 165 (mChg m1 l' k v 1))) → jfx (X7_flushes_F1 164 (nI p) J k7 k15) (fun _ => none) n (nI j) = some (jrow J 165 m')) ∧
      (∀ l', l < l' → l' < cnt → LR B (o + 10 + 9 * l') I' m' l' (S l')) ∧ SD B o I' m' ∧ KP o I1 I' ∧ KM m1 m' ∧ KN o (l + 1) I1 I' m1 m' ∧ PGS m1 m' := by
    intro d
    induction d with
    | zero =>
      intro n j h1 h2 h3
      obtain ⟨n, rfl⟩ : ∃ q, n = q + 1 := ⟨n - 1, by omega⟩
      refine ⟨pimI o p v I1, ju1 (ju1 m1 p v) 697 (m1 697 + 1), ?_, fun J hJ k7 k15 e7 e15 => ?_, fun l' a b => ?_, ?_, ?_, ?_, ⟨?_, ?_⟩, ?_⟩
      · rw [jfx_s, X4_flush_F1, hc1, if_pos (nI_lt (by omega) (by omega)), putMem_e ho hp, ob_some]
      · rw [jfx_s, X7_flushes_F1, if_pos (by decide), rM0, show ((688 : Int32)).toNatClampNeg = 688 from rfl, hJ, hcm1, if_pos (nI_le (by omega) (by omega)), e7]
      · refine (hL1 l' a b).congr (fun r h1 h2 => ?_) (fun i h1 h2 => ?_)
        · unfold pimI; rw [jup_ne _ _ (by omega), jup_ne _ _ (by omega)]
        · rw [ju1_ne _ _ (by omega), ju1_ne _ _ (by omega)]
      · obtain ⟨d1, d2, d3, x, d4, d5, d6⟩ := hD1
        refine ⟨fun q hq => ?_, ?_, ?_, x, d4, ?_, ?_⟩
        · unfold pimI
          rw [jup_ne _ _ (by omega), jup_q, ju1_ne _ _ (show q ≠ 697 by omega)]
          by_cases e : q = p
          · subst e; rw [ju1_eq, ju1_eq]
          · rw [ju1_ne _ _ e, ju1_ne _ _ e]; exact d1 q hq
        · unfold pimI; rw [jup_q, ju1_eq, ju1_eq, d2]
        · unfold pimI; rw [jup_ne _ _ (by omega), jup_ne _ _ (by omega), ju1_ne _ _ (by omega), ju1_ne _ _ (by omega)]; exact d3
        · unfold pimI; rw [jup_q, ju1_ne _ _ (by omega), jup_ne _ _ (by omega)]; exact d5
        · rw [ju1_ne _ _ (by omega), ju1_ne _ _ (by omega)]; exact d6
      · intro r j hr
        unfold pimI
        rw [jup_nj _ _ (by omega), jup_nj _ _ (by omega)]
      · intro i hi
        rw [ju1_ne _ _ (by omega), ju1_ne _ _ (by omega)]
      · intro r h1 h2
        unfold pimI; rw [jup_ne _ _ (by omega), jup_ne _ _ (by omega)]
      · intro i h1 h2
        rw [ju1_ne _ _ (by omega), ju1_ne _ _ (by omega)]
      · intro l' k h1 h2
        rw [ju1_ne _ _ (by omega), ju1_ne _ _ (by omega)]
    | succ d ih =>
      intro n j h1 h2 h3
      obtain ⟨n, rfl⟩ : ∃ q, n = q + 1 := ⟨n - 1, by omega⟩
      have hLj := hL1 j h2 (by omega)
      have hsj := hLj.1.1
      have hlb : LB (o + 10 + 9 * j) := LB_o ho (by omega)
      have hso := hLj.slotOf hlb hp
      have hlv0 : ¬ (o + 10 + 9 * j) = 0 := hlb.1
      cases hf : fnd m1 j (S j) (nI p) with
      | none =>
        obtain ⟨I', m', e1, e2, e3⟩ := ih n (j + 1) (by omega) (by omega) (by omega)
        refine ⟨I', m', ?_, fun J hJ k7 k15 e7 e15 => ?_, e3⟩
        · rw [jfx_s, X4_flush_F1, hc1, if_neg (nI_nlt (by omega) (by omega)), levelAt_e ho I1 hc1 hc4 (show j < cnt by omega), ob_some, jlet_d, if_neg hlv0, hso, hf, ob_some, if_pos (show oI none = (-1 : Int32) from rfl), show nI (j + 1) + (1 : Int32) = nI (j + 1 + 1) from nI_1 _]
          exact e1
        · rw [jfx_s, X7_flushes_F1, if_pos (by decide), rM0, show ((688 : Int32)).toNatClampNeg = 688 from rfl, hJ, hcm1, if_neg (nI_ge (by omega) (by omega)), found_e (by omega) hsj.2 (by rw [hJ]; exact hLj.1.2.1.2), ob_some, hJ, hf, if_pos (show oI none < 0 by decide), show nI j + (1 : Int32) = nI (j + 1) from nI_1 _]
          exact e2 J hJ k7 k15 e7 e15
      | some k =>
        obtain ⟨k1, k2, -⟩ := fnd_some hf
        refine ⟨chgI (o + 10 + 9 * j) k v 1 I1, mChg m1 j k v 1, ?_, fun J hJ k7 k15 e7 e15 => ?_, fun l' a b => ?_, ?_, ?_, ?_, ⟨?_, ?_⟩, ?_⟩
        · rw [jfx_s, X4_flush_F1, hc1, if_neg (nI_nlt (by omega) (by omega)), levelAt_e ho I1 hc1 hc4 (show j < cnt by omega), ob_some, jlet_d, if_neg hlv0, hso, hf, ob_some, if_neg (show ¬ oI (some k) = (-1 : Int32) from m1_ne (by omega)), ob_some]
          show (X2_change (o + 10 + 9 * j) (nI k) v 1 I1).bind _ = _
          rw [change_e hlb (by omega) v 1 (Or.inr rfl), ob_some]
        · rw [jfx_s, X7_flushes_F1, if_pos (by decide), rM0, show ((688 : Int32)).toNatClampNeg = 688 from rfl, hJ, hcm1, if_neg (nI_ge (by omega) (by omega)), found_e (by omega) hsj.2 (by rw [hJ]; exact hLj.1.2.1.2), ob_some, hJ, hf, if_neg (show ¬ oI (some k) < 0 from nI_pos (by omega))]
          exact e15 j k (by omega) (by omega)
        · by_cases e : l' = j
          · subst e
            exact hLj.chg (by omega) k2 hp (Or.inr rfl)
          · refine (hL1 l' a b).congr (fun r h1 h2 => ?_) (fun i h1 h2 => ?_)
            · unfold chgI
              rw [jup_ne _ _ (by show r ≠ o + 10 + 9 * j + 3; omega), jup_ne _ _ (by show r ≠ o + 10 + 9 * j + 2; omega)]
            · unfold mChg
              rw [ju1_ne _ _ (by omega), ju1_ne _ _ (by omega)]
        · obtain ⟨d1, d2, d3, x, d4, d5, d6⟩ := hD1
          have er : ∀ r, r < o + 10 → chgI (o + 10 + 9 * j) k v 1 I1 r = I1 r := fun r hr => by
            unfold chgI
            rw [jup_ne _ _ (by show r ≠ o + 10 + 9 * j + 3; omega), jup_ne _ _ (by show r ≠ o + 10 + 9 * j + 2; omega)]
          have em : ∀ i, i < 128 ∨ 688 ≤ i → mChg m1 j k v 1 i = m1 i := fun i hi => by
            unfold mChg
            rw [ju1_ne _ _ (by omega), ju1_ne _ _ (by omega)]
          refine ⟨fun q hq => ?_, ?_, ?_, x, d4, ?_, ?_⟩
          · rw [er _ (by omega), em _ (by omega)]; exact d1 q hq
          · rw [er _ (by omega), em _ (by omega)]; exact d2
          · rw [er _ (by omega), em _ (by omega)]; exact d3
          · rw [er _ (by omega)]; exact d5
          · rw [em _ (by omega)]; exact d6
        · intro r j2 hr
          unfold chgI
          rw [jup_ne _ _ (by show r ≠ o + 10 + 9 * j + 3; omega), jup_ne _ _ (by show r ≠ o + 10 + 9 * j + 2; omega)]
        · intro i hi
          unfold mChg
          rw [ju1_ne _ _ (by omega), ju1_ne _ _ (by omega)]
        · intro r h1 h2
          unfold chgI
          rw [jup_ne _ _ (by show r ≠ o + 10 + 9 * j + 3; omega), jup_ne _ _ (by show r ≠ o + 10 + 9 * j + 2; omega)]
        · intro i h1 h2
          unfold mChg
          rw [ju1_ne _ _ (by omega), ju1_ne _ _ (by omega)]
        · intro l' k' h1 h2
          unfold mChg
          rw [ju1_ne _ _ (by omega), ju1_ne _ _ (by omega)]
  obtain ⟨I', m', e1, e2, e3, e4, e5, e6, e7, e8⟩ := key (cnt - (l + 1)) 1000 (l + 1) (by omega) (by omega) (by omega)
  refine ⟨I', m', ?_, fun J hJ => ?_, e3, e4, ?_, ?_, e7, ?_⟩
  · have hlv0 : ¬ (o + 10 + 9 * l) = 0 := (LB_o ho (show l < 4 by omega)).1
    unfold X4_flush
    rw [levelAt_e ho I hcI hc4 hl, ob_some]
    simp only [jlet_d]
    rw [if_neg hlv0, hI1, show nI (l + 1) + (1 : Int32) = nI (l + 1 + 1) from nI_1 _]
    exact e1
  · unfold X7_flushes
    rw [at_e 7 l 7 rfl, ob_some, if_pos (jin_N (by omega) (by omega)), if_pos (jin_N (by omega) (by omega)), jlet_d, jlet_d, jlet_d, jlet_d, rM0, cl_N (by omega), jup_def J 165, hJ, show 128 + 140 * l + 7 = 135 + 140 * l by omega, hm1]
    rw [show nI l + (1 : Int32) = nI (l + 1) from nI_1 _]
    refine (e2 (jrow J 165 m1) (jrow_self _ _ _) _ _ ?_ ?_).trans (by rw [jrow_jrow])
    · have := fluK m1 (jrow J 165 m1) (jrow_self _ _ _) hp v
      rw [rM0] at this
      exact this
    · intro l' k h1 h2
      have := chgK m1 (jrow J 165 m1) (jrow_self _ _ _) h1 h2 v
      rw [rM0] at this
      exact this
  · refine KP.tr (fun r j hr => ?_) e5
    rw [← hI1, jup_ne _ _ (by show r ≠ o + 10 + 9 * l; omega)]
  · refine KM.tr (fun i hi => ?_) e6
    rw [← hm1, ju1_ne _ _ (by omega)]
  · intro l' k h1 h2
    rw [e8 l' k h1 h2, ← hm1, ju1_ne _ _ (by omega)]
