/-! WRITING a value: on both sides -/
theorem CORE.chg {B o cnt mode T l k p : Nat} {S : Nat → Nat} {I : jI} {m : Mn} (h : CORE B o cnt mode T S I m) (hl : l < cnt) (hk : k < 16) (hm : m (140 + 140 * l + 7 * k) = nI p) (hp : p < 64) (v : Int32) {d : Int32} (hd : d = 0 ∨ d = 1) :
    CORE B o cnt mode T S (chgI (o + 10 + 9 * l) k v d I) (mChg m l k v d) ∧ KP o I (chgI (o + 10 + 9 * l) k v d I) ∧ KM m (mChg m l k v d) := by
  obtain ⟨⟨hc4, hmode, hTB, hB1⟩, hH, hL, hD, hex⟩ := h
  have er : ∀ r, (r < o + 10 + 9 * l ∨ o + 10 + 9 * l + 9 ≤ r) → chgI (o + 10 + 9 * l) k v d I r = I r := fun r hr => by unfold chgI; simp (disch := omega) only [jup_ne]
  have em : ∀ w, w ≠ 140 + 140 * l + 7 * k + 1 → w ≠ 140 + 140 * l + 7 * k + 2 → mChg m l k v d w = m w := fun w h1 h2 => by unfold mChg; rw [ju1_ne _ _ h2, ju1_ne _ _ h1]
  refine ⟨⟨⟨hc4, hmode, hTB, hB1⟩, hH.keep (fun j _ _ => by rw [er o (by omega)]) (fun i h1 _ _ _ => em i (by omega) (by omega)), fun j hj => ?_, hD.congr (er _ (by omega)) (by rw [er _ (by omega)]) (by rw [er _ (by omega)]) (by rw [er _ (by omega)]) (fun i hi => em i (by omega) (by omega)), fun h2 => (hex h2).of hc4 (fun j kk _ h1 h3 => Or.inl (em _ (by omega) (by omega)))⟩, fun r j hr => by rw [er r (by omega)], fun i hi => em i (by omega) (by omega)⟩
  by_cases e : j = l
  · subst e; exact (hL j hj).chg hk hm hp hd
  · exact (hL j hj).congr (fun r a b => er r (by omega)) (fun w a b => em w (by omega) (by omega))
theorem CORE.pim {B o cnt mode T p : Nat} {S : Nat → Nat} {I : jI} {m : Mn} (h : CORE B o cnt mode T S I m) (hp : p < 64) (v : Int32) :
    CORE B o cnt mode T S (pimI o p v I) (ju1 (ju1 m p v) 697 (m 697 + 1)) ∧ KP o I (pimI o p v I) ∧ KM m (ju1 (ju1 m p v) 697 (m 697 + 1)) := by
  obtain ⟨⟨hc4, hmode, hTB, hB1⟩, hH, hL, hD, hex⟩ := h
  have er : ∀ r, r ≠ o → r ≠ o + 2 → pimI o p v I r = I r := fun r h1 h2 => by unfold pimI; rw [jup_ne _ _ h1, jup_ne _ _ h2]
  have ero : ∀ f, f ≠ 11 → pimI o p v I o f = I o f := fun f hf => by unfold pimI; rw [jup_q, ju1_ne _ _ hf, jup_ne _ _ (by omega)]
  have em : ∀ w, w ≠ 697 → w ≠ p → ju1 (ju1 m p v) 697 (m 697 + 1) w = m w := fun w h1 h2 => by rw [ju1_ne _ _ h1, ju1_ne _ _ h2]
  refine ⟨⟨⟨hc4, hmode, hTB, hB1⟩, hH.keep (fun j h1 _ => ero j h1) (fun i h1 h2 _ _ => em i h2 (by omega)), fun j hj => (hL j hj).congr (fun r a b => er r (by omega) (by omega)) (fun w a b => em w (by omega) (by omega)), ?_, fun h2 => (hex h2).of hc4 (fun j kk _ h1 h3 => Or.inl (em _ (by omega) (by omega)))⟩, fun r j hr => ?_, fun i hi => em i (by omega) (by omega)⟩
  · obtain ⟨d1, d2, d3, x, d4, d5, d6⟩ := hD
    refine ⟨fun q hq => ?_, ?_, ?_, x, d4, ?_, ?_⟩
    · unfold pimI
      rw [jup_ne _ _ (by omega), jup_q, ju1_ne _ _ (show q ≠ 697 by omega)]
      by_cases e : q = p
      · subst e; rw [ju1_eq, ju1_eq]
      · rw [ju1_ne _ _ e, ju1_ne _ _ e]; exact d1 q hq
    · unfold pimI; rw [jup_q, ju1_eq, ju1_eq, d2]
    · rw [er _ (by omega) (by omega), em _ (by omega) (by omega)]; exact d3
    · rw [ero _ (by omega)]; exact d5
    · rw [em _ (by omega) (by omega)]; exact d6
  · unfold pimI; rw [jup_nj _ _ (by omega), jup_nj _ _ (by omega)]
def wrM (p0 p1 : Int32) (k10 : jI → Option (Int32 × jI)) (I2 : jI) : Option (Int32 × jI) :=
if jin (690 : Int32) 784 then (
jlet (if (I2 (rfC 164 0) ((690 : Int32)).toNatClampNeg) = (1 : Int32) then (1 : Int32) else (0 : Int32)) (fun (y6 : Int32) =>
jlet (fun (I7 : jI) =>
jlet k10 (fun (k10 : jI → Option (Int32 × jI)) =>
jlet (
if jin p0 784 then jlet (jup I7 (rfC 164 0) (p0).toNatClampNeg p1) (fun (I15 : jI) =>
if jin (697 : Int32) 784 then (
if jin (697 : Int32) 784 then jlet (jup I15 (rfC 164 0) ((697 : Int32)).toNatClampNeg ((I15 (rfC 164 0) ((697 : Int32)).toNatClampNeg) + (1 : Int32))) (fun (I18 : jI) =>
k10 I18) else none) else none) else none) (fun (k13 : Option (Int32 × jI)) =>
if y6 = 0 then (
if jin (688 : Int32) 784 then (
if (I7 (rfC 164 0) ((688 : Int32)).toNatClampNeg) = 0 then (
k13)
else (
k10 I7)) else none)
else (
k13)))) (fun (k8 : jI → Option (Int32 × jI)) =>
jfx (X7_writes_F1 164 p0 p1 y6 k8) (fun _ _ => none) 1000 (0 : Int32) I2))) else none
theorem writes_e (p0 p1 : Int32) (J : jI) : X7_writes 164 p0 p1 J = jb2 (X7_looks 164 p0 J) (fun y1 I2 => wrM p0 p1 (fun I9 => (X7_follows 164 p0 1 I9).bind (fun I11 => some (I11 164 5, I11))) I2) := rfl
theorem chgW (J : jI) (m : Mn) (hJ : J 165 = m) {l k : Nat} (hl : l < 4) (hk : k < 16) (v y6 : Int32) (f : jI → Option (Int32 × jI)) : (X7_slotAt (nI l) (nI k) (1 : Int32)).bind (fun (y33 : Int32) =>
if jin y33 784 then jlet (jup J 165 (y33).toNatClampNeg v) (fun (I36 : jI) =>
(X7_slotAt (nI l) (nI k) (2 : Int32)).bind (fun (y37 : Int32) =>
jlet (if y6 = 0 then (1 : Int32) else (0 : Int32)) (fun (y40 : Int32) =>
if jin y37 784 then jlet (jup I36 165 (y37).toNatClampNeg y40) (fun (I42 : jI) =>
f I42) else none))) else none) = f (jrow J 165 (mChg m l k v (if y6 = 0 then 1 else 0))) := by
  subst hJ
  rw [slotAt_e 1 l k 1 rfl, ob_some, if_pos (jin_N (by omega) (by omega)), jlet_d, slotAt_e 2 l k 2 rfl, ob_some, jlet_d, if_pos (jin_N (by omega) (by omega)), jlet_d, cl_N (by omega), cl_N (by omega), jup_def J 165, jrow_jup]
  rfl
theorem wt_key {B o cnt mode T p : Nat} {S : Nat → Nat} (ho : OB o) (hp : p < 64) (v : Int32) : ∀ d n i (I : jI) (m : Mn), CORE B o cnt mode T S I m → i + d = cnt → d < n →
    ∃ I' m', jfx (X4_putValue_F1 o (nI p) v) (fun _ _ => none) n (nI (i + 1)) I = some (pimI o p v I') ∧ (∀ J : jI, J 165 = m → ∀ k8, jfx (X7_writes_F1 164 (nI p) v 1 k8) (fun _ _ => none) n (nI i) J = k8 (jrow J 165 m')) ∧ CORE B o cnt mode T S I' m' ∧ KP o I I' ∧ KM m m' := by
  intro d
  induction d with
  | zero =>
    intro n i I m h h1 h2
    obtain ⟨n, rfl⟩ : ∃ q, n = q + 1 := ⟨n - 1, by omega⟩
    obtain ⟨⟨hc4, -⟩, ⟨hcI, hcm, -⟩, -⟩ := id h
    refine ⟨I, m, ?_, fun J hJ k8 => ?_, h, KP.rf, KM.rf⟩
    · rw [jfx_s, X4_putValue_F1, hcI, if_pos (nI_lt (by omega) (by omega)), putMem_e ho hp, ob_some]
    · rw [jfx_s, X7_writes_F1, if_pos (by decide), rM0, show ((688 : Int32)).toNatClampNeg = 688 from rfl, hJ, hcm, if_pos (nI_le (by omega) (by omega)), ← hJ, jrow_id]
  | succ d ih =>
    intro n i I m h h1 h2
    obtain ⟨n, rfl⟩ : ∃ q, n = q + 1 := ⟨n - 1, by omega⟩
    obtain ⟨⟨hc4, -⟩, ⟨hcI, hcm, -⟩, hL, -⟩ := id h
    have hLi := hL i (by omega)
    have hb : LB (o + 10 + 9 * i) := LB_o ho (by omega)
    have hs := hLi.1.1
    cases hf : fnd m i (S i) (nI p) with
    | none =>
      obtain ⟨I', m', e1, e2, e3⟩ := ih n (i + 1) I m h (by omega) (by omega)
      refine ⟨I', m', ?_, fun J hJ k8 => ?_, e3⟩
      · rw [jfx_s, X4_putValue_F1, hcI, if_neg (nI_nlt (by omega) (by omega)), levelAt_e ho I hcI hc4 (show i < cnt by omega), ob_some, jlet_d, if_neg hb.1, hLi.slotOf hb hp, hf, ob_some, show oI none = (-1 : Int32) from rfl, change_m1, ob_some, show nI (i + 1) + (1 : Int32) = nI (i + 1 + 1) from nI_1 _]
        exact e1
      · rw [jfx_s, X7_writes_F1, if_pos (by decide), rM0, show ((688 : Int32)).toNatClampNeg = 688 from rfl, hJ, hcm, if_neg (nI_ge (by omega) (by omega)), found_e (by omega) hs.2 (by rw [hJ]; exact hLi.1.2.1.2), hJ, hf, ob_some, jlet_d, if_pos (show oI none < 0 by decide), show nI i + (1 : Int32) = nI (i + 1) from nI_1 _]
        exact e2 J hJ k8
    | some k =>
      obtain ⟨k1, k2, -⟩ := fnd_some hf
      obtain ⟨c1, c2, c3⟩ := h.chg (l := i) (by omega) (show k < 16 by omega) k2 hp v (d := 0) (Or.inl rfl)
      obtain ⟨I', m', e1, e2, e3, e4, e5⟩ := ih n (i + 1) _ _ c1 (by omega) (by omega)
      refine ⟨I', m', ?_, fun J hJ k8 => ?_, e3, c2.tr e4, c3.tr e5⟩
      · rw [jfx_s, X4_putValue_F1, hcI, if_neg (nI_nlt (by omega) (by omega)), levelAt_e ho I hcI hc4 (show i < cnt by omega), ob_some, jlet_d, if_neg hb.1, hLi.slotOf hb hp, hf, ob_some, show oI (some k) = nI k from rfl, change_e hb (by omega) v 0 (Or.inl rfl), ob_some, show nI (i + 1) + (1 : Int32) = nI (i + 1 + 1) from nI_1 _]
        exact e1
      · rw [jfx_s, X7_writes_F1, if_pos (by decide), show ((688 : Int32)).toNatClampNeg = 688 from rfl, rM0, hJ, hcm, if_neg (nI_ge (by omega) (by omega)), found_e (by omega) hs.2 (by rw [hJ]; exact hLi.1.2.1.2), hJ, hf, ob_some, jlet_d, if_neg (show ¬ oI (some k) < 0 from nI_pos (by omega)), show oI (some k) = nI k from rfl, chgW J m hJ (by omega) (by omega) v 1, jlet_d, show nI i + (1 : Int32) = nI (i + 1) from nI_1 _, if_neg (show ¬ (1 : Int32) = 0 by decide), if_neg (show ¬ (1 : Int32) = 0 by decide), e2 _ (jrow_self _ _ _) k8, jrow_jrow]
        by_cases c : nI i = 0
        · rw [if_pos c]
        · rw [if_neg c]
theorem wb_skip {B o cnt mode T p : Nat} {S : Nat → Nat} (hp : p < 64) (v : Int32) {I : jI} {m : Mn} (h : CORE B o cnt mode T S I m) : ∀ d n i, 1 ≤ i → i + d = cnt → d < n → ∀ J : jI, J 165 = m → ∀ k8, jfx (X7_writes_F1 164 (nI p) v 0 k8) (fun _ _ => none) n (nI i) J = k8 J := by
  obtain ⟨⟨hc4, -⟩, ⟨hcI, hcm, -⟩, hL, -⟩ := id h
  intro d
  induction d with
  | zero =>
    intro n i h0 h1 h2 J hJ k8
    obtain ⟨n, rfl⟩ : ∃ q, n = q + 1 := ⟨n - 1, by omega⟩
    rw [jfx_s, X7_writes_F1, if_pos (by decide), rM0, show ((688 : Int32)).toNatClampNeg = 688 from rfl, hJ, hcm, if_pos (nI_le (by omega) (by omega))]
  | succ d ih =>
    intro n i h0 h1 h2 J hJ k8
    obtain ⟨n, rfl⟩ : ∃ q, n = q + 1 := ⟨n - 1, by omega⟩
    have hLi := hL i (by omega)
    have hs := hLi.1.1
    rw [jfx_s, X7_writes_F1, if_pos (by decide), show ((688 : Int32)).toNatClampNeg = 688 from rfl, rM0, hJ, hcm, if_neg (nI_ge (by omega) (by omega)), found_e (by omega) hs.2 (by rw [hJ]; exact hLi.1.2.1.2), ob_some, jlet_d, show nI i + (1 : Int32) = nI (i + 1) from nI_1 _]
    by_cases c : oI (fnd (J 165) i (S i) (nI p)) < 0
    · rw [if_pos c]
      exact ih n (i + 1) (by omega) (by omega) (by omega) J hJ k8
    · rw [if_neg c, jlet_d, if_neg (nI_ne0 (by omega) (by omega)), if_pos rfl]
      exact ih n (i + 1) (by omega) (by omega) (by omega) J hJ k8
theorem put_value {B o cnt mode T p : Nat} {S : Nat → Nat} (ho : OB o) (hp : p < 64) (v : Int32) {I : jI} {m : Mn} (h : CORE B o cnt mode T S I m) (hw : I o 5 = m 690 ∧ (m 690 = 0 ∨ m 690 = 1)) :
    ∃ I' m', X4_putValue o (nI p) v I = some I' ∧ (∀ J : jI, J 165 = m → ∀ k10, wrM (nI p) v k10 J = k10 (jrow J 165 m')) ∧ CORE B o cnt mode T S I' m' ∧ KP o I I' ∧ KM m m' := by
  obtain ⟨⟨hc4, -⟩, ⟨hcI, hcm, -⟩, hL, -⟩ := id h
  obtain ⟨hw1, hw2⟩ := hw
  have memK : ∀ (J : jI) (m' : Mn), J 165 = m' → ∀ k10 : jI → Option (Int32 × jI), (if jin (nI p) 784 then jlet (jup J 165 (nI p).toNatClampNeg v) (fun (I15 : jI) =>
      if jin (697 : Int32) 784 then (
      if jin (697 : Int32) 784 then jlet (jup I15 165 ((697 : Int32)).toNatClampNeg ((I15 165 ((697 : Int32)).toNatClampNeg) + (1 : Int32))) (fun (I18 : jI) =>
      k10 I18) else none) else none) else none) = k10 (jrow J 165 (ju1 (ju1 m' p v) 697 (m' 697 + 1))) := by
    intro J m' hJ k10
    subst hJ
    rw [if_pos (jin_N (by omega) (by omega)), jlet_d, if_pos (by decide), if_pos (by decide), jlet_d, cl_N (by omega), show ((697 : Int32)).toNatClampNeg = 697 from rfl, jup_q, ju1_ne _ _ (by omega), jup_def J 165, jrow_jup]
  by_cases hwt : m 690 = 1
  · obtain ⟨I', m', e1, e2, e3, e4, e5⟩ := wt_key ho hp v cnt 1000 0 I m h (by omega) (by omega)
    obtain ⟨f1, f2, f3⟩ := e3.pim hp v
    refine ⟨pimI o p v I', _, ?_, fun J hJ k10 => ?_, f1, e4.tr f2, e5.tr f3⟩
    · unfold X4_putValue
      have e1' : jfx (X4_putValue_F1 o (nI p) v) (fun _ _ => none) 1000 1 I = some (pimI o p v I') := e1
      by_cases hc0 : cnt = 0
      · have := levelAt_no I hcI hc4 (o := o) (j := 1) (Or.inr (by omega)) (by omega)
        rw [show X4_levelAt o 1 I = some 0 from this, ob_some, jlet_d, e1', if_pos rfl]
      · have := levelAt_e ho I hcI hc4 (show 0 < cnt by omega)
        rw [show X4_levelAt o 1 I = some (o + 10 + 9 * 0) from this, ob_some, jlet_d, e1', if_neg (LB_o ho (show 0 < 4 by omega)).1, hw1, if_pos hwt]
    · unfold wrM
      rw [if_pos (by decide), jlet_d, rM0, show ((690 : Int32)).toNatClampNeg = 690 from rfl, hJ, hwt, if_pos rfl, jlet_d]
      have e2' := fun k8 => e2 J hJ k8
      rw [show (0 : Int32) = nI 0 from rfl, e2', jlet_d, jlet_d, if_neg (show ¬ (1 : Int32) = nI 0 by decide)]
      rw [memK _ m' (by rw [jrow_self]) k10, jrow_jrow]
  · have hw0 : m 690 = 0 := hw2.resolve_right hwt
    have hwI : ¬ I o 5 = (1 : Int32) := by rw [hw1, hw0]; decide
    by_cases hc0 : cnt = 0
    · obtain ⟨f1, f2, f3⟩ := h.pim hp v
      refine ⟨pimI o p v I, _, ?_, fun J hJ k10 => ?_, f1, f2, f3⟩
      · unfold X4_putValue
        rw [show (1 : Int32) = nI 1 from rfl, levelAt_no I hcI hc4 (Or.inr (by omega)) (by omega), ob_some, jlet_d, if_pos rfl, show (1000 : Nat) = 999 + 1 from rfl, jfx_s, X4_putValue_F1, hcI, if_pos (nI_lt (by omega) (by omega)), putMem_e ho hp, ob_some]
      · unfold wrM
        rw [if_pos (by decide), jlet_d, rM0, show ((690 : Int32)).toNatClampNeg = 690 from rfl, hJ, hw0, if_neg (by decide), jlet_d, show (1000 : Nat) = 999 + 1 from rfl, jfx_s, X7_writes_F1, if_pos (by decide), rM0, show ((688 : Int32)).toNatClampNeg = 688 from rfl, hJ, hcm, hc0, if_pos (by decide), jlet_d, jlet_d, if_pos rfl, if_pos (by decide), if_pos (show nI 0 = (0 : Int32) from rfl)]
        exact memK J m hJ k10
    · have hLi := hL 0 (by omega)
      have hb : LB (o + 10 + 9 * 0) := LB_o ho (by omega)
      have hs := hLi.1.1
      have hend : ∀ (J : jI) (m' : Mn), J 165 = m' → m' 688 = nI cnt → ∀ k10 : jI → Option (Int32 × jI), (if jin (688 : Int32) 784 then (if (J (rfC 164 0) ((688 : Int32)).toNatClampNeg) = 0 then (none : Option (Int32 × jI)) else k10 J) else none) = k10 J := by
        intro J m' hJ h8 k10
        rw [if_pos (by decide), rM0, show ((688 : Int32)).toNatClampNeg = 688 from rfl, hJ, h8, if_neg (nI_ne0 (by omega) (by omega))]
      cases hf : fnd m 0 (S 0) (nI p) with
      | none =>
        refine ⟨I, m, ?_, fun J hJ k10 => ?_, h, KP.rf, KM.rf⟩
        · unfold X4_putValue
          have := levelAt_e ho I hcI hc4 (show 0 < cnt by omega)
          rw [show X4_levelAt o 1 I = some (o + 10 + 9 * 0) from this, ob_some, jlet_d, if_neg hb.1, if_neg hwI, hLi.slotOf hb hp, hf, ob_some, show oI none = (-1 : Int32) from rfl, change_m1, ob_some]
        · unfold wrM
          rw [if_pos (by decide), jlet_d, rM0, show ((690 : Int32)).toNatClampNeg = 690 from rfl, hJ, hw0, if_neg (by decide), jlet_d, show (1000 : Nat) = 999 + 1 from rfl, jfx_s, X7_writes_F1, if_pos (by decide), rM0, show ((688 : Int32)).toNatClampNeg = 688 from rfl, hJ, hcm, if_neg (by rw [le0_N (by omega)]; exact hc0)]
          have hfo := found_e (l := 0) (by omega) hs.2 (I := J) (by rw [hJ]; exact hLi.1.2.1.2) (nI p)
          rw [show X7_found 164 0 (nI p) J = _ from hfo, hJ, hf, ob_some, jlet_d, if_pos (show oI none < 0 by decide)]
          have hsk := wb_skip hp v h (cnt - 1) 999 1 (by omega) (by omega) (by omega) J hJ
          refine (hsk _).trans ?_
          rw [jlet_d, jlet_d, if_pos rfl, if_pos (by decide), hJ, hcm, if_neg (nI_ne0 (by omega) (by omega)), ← hJ, jrow_id]
      | some k =>
        obtain ⟨k1, k2, -⟩ := fnd_some hf
        obtain ⟨c1, c2, c3⟩ := h.chg (l := 0) (by omega) (show k < 16 by omega) k2 hp v (d := 1) (Or.inr rfl)
        refine ⟨_, _, ?_, fun J hJ k10 => ?_, c1, c2, c3⟩
        · unfold X4_putValue
          have := levelAt_e ho I hcI hc4 (show 0 < cnt by omega)
          rw [show X4_levelAt o 1 I = some (o + 10 + 9 * 0) from this, ob_some, jlet_d, if_neg hb.1, if_neg hwI, hLi.slotOf hb hp, hf, ob_some, show oI (some k) = nI k from rfl, change_e hb (by omega) v 1 (Or.inr rfl), ob_some]
        · unfold wrM
          rw [if_pos (by decide), jlet_d, show ((690 : Int32)).toNatClampNeg = 690 from rfl, rM0, hJ, hw0, if_neg (by decide), jlet_d, show (1000 : Nat) = 999 + 1 from rfl, jfx_s, X7_writes_F1, if_pos (by decide), rM0, show ((688 : Int32)).toNatClampNeg = 688 from rfl, hJ, hcm, if_neg (by rw [le0_N (by omega)]; exact hc0)]
          have hfo := found_e (l := 0) (by omega) hs.2 (I := J) (by rw [hJ]; exact hLi.1.2.1.2) (nI p)
          have hcw := chgW J m hJ (l := 0) (k := k) (by omega) (by omega) v 0
          rw [show X7_found 164 0 (nI p) J = _ from hfo, hJ, hf, ob_some, jlet_d, if_neg (show ¬ oI (some k) < 0 from nI_pos (by omega)), show oI (some k) = nI k from rfl, jlet_d, if_pos rfl]
          refine (hcw _).trans ?_
          have h8 : mChg m 0 k v 1 688 = nI cnt := by unfold mChg; rw [ju1_ne _ _ (by omega), ju1_ne _ _ (by omega)]; exact hcm
          have hsk := wb_skip hp v c1 (cnt - 1) 999 1 (by omega) (by omega) (by omega) (jrow J 165 (mChg m 0 k v 1)) (jrow_self _ _ _)
          rw [show (0 : Int32) + 1 = nI 1 from rfl, if_pos rfl, hsk, jlet_d, jlet_d, if_pos rfl, if_pos (by decide), jrow_self, h8, if_neg (nI_ne0 (by omega) (by omega))]
