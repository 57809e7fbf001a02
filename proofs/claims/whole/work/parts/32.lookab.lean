/-! LOOKING, and letting the page come near: on both sides -/
theorem LR.notIn {B b : Nat} {I : jI} {m : Mn} {l s p : Nat} (h : LR B b I m l s) (hp : p < 64) (hf : fnd m l s (nI p) = none) : ¬ inL m l p := by
  intro ⟨k, h1, h2⟩
  exact fnd_none hf k (h.slot h1 h2 hp).1 h2
theorem EXF.of {m m' : Mn} {cnt l : Nat} (h : EXF m cnt l) (hc : cnt ≤ 4) (hs : ∀ j k, l ≤ j → j < cnt → k < 16 → m' (140 + 140 * j + 7 * k) = m (140 + 140 * j + 7 * k) ∨ m' (140 + 140 * j + 7 * k) = -1) : EXF m' cnt l := by
  have key : ∀ j q, l ≤ j → j < cnt → q < 64 → inL m' j q → inL m j q := fun j q h1 h2 h3 ⟨k, a, b⟩ => by
    rcases hs j k h1 h2 a with e | e
    · exact ⟨k, a, by rw [← e]; exact b⟩
    · rw [e] at b; exact absurd b.symm (m1_ne (by omega))
  intro l1 l2 q a1 a2 a3 a4 a5 a6
  exact h l1 l2 q a1 a2 a3 a4 (key l1 q a1 (by omega) a4 a5) (key l2 q (by omega) a3 a4 a6)
theorem LR.uniq {B b : Nat} {I : jI} {m : Mn} {l s p j k : Nat} (h : LR B b I m l s) (hp : p < 64) (hj : j < 16) (hk : k < 16) (h1 : m (140 + 140 * l + 7 * j) = nI p) (h2 : m (140 + 140 * l + 7 * k) = nI p) : j = k := by
  have a := (h.slot hj h1 hp).2.1
  have b := (h.slot hk h2 hp).2.1
  rw [a] at b
  exact (nI_eq (by omega) (by omega)).mp b
def runM (m : Mn) (p : Nat) : Int32 := if m 694 ≤ 0 then 1 else if nI p = m 695 + 1 then m 694 + 1 else 1
def LAB (B o cnt mode T p : Nat) (S : Nat → Nat) (I : jI) (m : Mn) (j cost fr : Nat) (g dd : Int32) (I3 I6 : jI) (mA : Mn) : Prop :=
  (j ≤ cnt ∧ cost ≤ 1395 ∧ fr = (if j < cnt then j + 1 else 0) ∧ (dd = 0 ∨ dd = 1) ∧ (mode ≠ 2 → dd = 0)) ∧
  X4_lookFor o (nI p) (jup I o 7 (I o 7 + 1)) = some (nI cost, I3) ∧ X4_leaveToComeNear o (nI p) I3 = some (dd, I6) ∧
  (∀ J : jI, J 165 = m → ∃ v20, (mode = 2 → 0 < j → v20 = dd) ∧ X7_looks 164 (nI p) J = tailM (nI p) (nI j) g v20 (Nf J (nI cost) (nI fr) mA)) ∧
  (I6 o 16 = nI fr ∧ I6 o 17 = g) ∧
  (∀ l, l < cnt → LR (B + 1) (o + 10 + 9 * l) I6 mA l (S l)) ∧ STH o cnt mode (T + 1) I6 mA ∧ SD (B + 1) o I6 mA ∧ (mode = 2 → EXF mA cnt 0) ∧
  (mode ≠ 2 → ∀ l, l < j → ¬ inL mA l p) ∧ (mode = 2 → 0 < j → ∀ l, l < cnt → ¬ inL mA l p) ∧
  (∀ r, (r < o ∨ (o < r ∧ r < o + 10) ∨ o + 46 ≤ r) → I6 r = I r) ∧ (∀ f, f ≠ 7 → f ≠ 16 → f ≠ 17 → I6 o f = I o f) ∧
  (∀ w, (w < 128 ∨ 688 ≤ w) → w ≠ 693 → w ≠ 64 + p → w ≠ 694 → w ≠ 695 → mA w = m w) ∧ mA (64 + p) = m (64 + p) + 1 ∧
  (j < cnt → mA 694 = m 694 ∧ mA 695 = m 695) ∧ (j = cnt → mA 694 = runM m p ∧ mA 695 = nI p)
theorem look_AB {B o cnt mode T p : Nat} {S : Nat → Nat} (ho : OB o) {I : jI} {m : Mn} (h : ST B o cnt mode T S I m) (hp : p < 64) (hB : B + 1 < 1073741824) : ∃ j cost fr g dd I3 I6 mA, LAB B o cnt mode T p S I m j cost fr g dd I3 I6 mA := by
  obtain ⟨⟨hc4, hmode, hTB, hB1⟩, hH, hL, hD, hex, hrun, ⟨⟨far, hfar, hfI, hfm⟩, hrest⟩⟩ := h
  obtain ⟨hc, hcm, ho4, hm4, hT, hTm⟩ := id hH
  have hT1 : I o 7 + 1 = nI (T + 1) := by rw [hT]; exact nI_1 T
  have hT1m : m 693 + 1 = nI (T + 1) := by rw [hTm]; exact nI_1 T
  obtain ⟨I1, hI1⟩ : ∃ I1, I1 = jup I o 7 (I o 7 + 1) := ⟨_, rfl⟩
  obtain ⟨m1, hm1⟩ : ∃ m1, m1 = ju1 (ju1 m 693 (m 693 + 1)) (64 + p) (m (64 + p) + 1) := ⟨_, rfl⟩
  have eI1 : ∀ r, r ≠ o → I1 r = I r := fun r hr => by rw [hI1, jup_ne _ _ hr]
  have eI1o : ∀ f, f ≠ 7 → I1 o f = I o f := fun f hf => by rw [hI1, jup_q, ju1_ne _ _ hf]
  have eI17 : I1 o 7 = nI (T + 1) := by rw [hI1, jup_q, ju1_eq, hT1]
  have em1 : ∀ w, w ≠ 693 → w ≠ 64 + p → m1 w = m w := fun w h1 h2 => by rw [hm1, ju1_ne _ _ h2, ju1_ne _ _ h1]
  have em13 : m1 693 = nI (T + 1) := by rw [hm1, ju1_ne _ _ (by omega), ju1_eq, hT1m]
  have em1p : m1 (64 + p) = m (64 + p) + 1 := by rw [hm1, ju1_eq]
  obtain ⟨j, acc, I', m', k1, k2, k3, k4, k5, k6, k7, k8, k9, k10⟩ := look_key (B := B) ho hc4 hp cnt 1000 0 0 I1 m1 (by omega) (by omega) (by omega) (by rw [eI1o 1 (by omega)]; exact hc) (by rw [em1 _ (by omega) (by omega)]; exact hcm) (fun l hl => (hL l hl).congr (fun r a b => eI1 r (by omega)) (fun w a b => em1 w (by omega) (by omega)))
  have eI' : ∀ r, (r < o ∨ (o < r ∧ r < o + 10) ∨ o + 46 ≤ r) → I' r = I r := fun r hr => by rw [k7 r (by omega), eI1 r (by omega)]
  have eI'o : ∀ f, I' o f = I1 o f := fun f => by rw [k7 o (by omega)]
  have em' : ∀ w, (w < 128 ∨ 688 ≤ w) → w ≠ 693 → w ≠ 64 + p → m' w = m w := fun w h1 h2 h3 => by rw [k8 w (fun l hl => by omega), em1 w h2 h3]
  have em's : ∀ l k, l < 4 → k < 16 → m' (140 + 140 * l + 7 * k) = m (140 + 140 * l + 7 * k) := fun l k h1 h2 => by rw [k8 _ (fun l' hl' => by omega), em1 _ (by omega) (by omega)]
  have em'3 : m' 693 = nI (T + 1) := by rw [k8 _ (fun l' hl' => by omega), em13]
  have em'p : m' (64 + p) = m (64 + p) + 1 := by rw [k8 _ (fun l' hl' => by omega), em1p]
  have hSD' : SD (B + 1) o I' m' := (hD.mono (by omega)).congr (eI' _ (by omega)) (by rw [eI'o, eI1o _ (by omega)]) (by rw [eI' _ (by omega)]) (by rw [eI'o, eI1o _ (by omega)]) (fun i hi => em' i (by omega) (by omega) (by omega))
  have hfc : ∀ l, l < cnt → fnd m1 l (S l) (nI p) = fnd m l (S l) (nI p) := fun l hl => by
    have := (hL l hl).1.1
    unfold fnd
    exact ffr_congr (fun jj _ hj => by rw [em1 _ (by omega) (by omega)])
  have front : ∀ J : jI, J 165 = m → X7_looks 164 (nI p) J = (fun (v8 : Int32) (I9 : jI) => if jin (688 : Int32) 784 then (
      jlet (if v8 = (I9 (rfC 164 0) ((688 : Int32)).toNatClampNeg) then (1 : Int32) else (0 : Int32)) (fun (y13 : Int32) =>
      jlet (if y13 = 0 then (v8 + (1 : Int32)) else (0 : Int32)) (fun (y15 : Int32) =>
      jlet (jup I9 164 6 y15) (fun (I16 : jI) =>
      if jin (nI p) 784 then (
      jlet ((I16 (rfC 164 0) ((nI p)).toNatClampNeg)) (fun (y18 : Int32) =>
      jlet (fun (v19 : Int32) (v20 : Int32) (I21 : jI) =>
      if jin (689 : Int32) 784 then (
      jlet (fun (I24 : jI) =>
      jlet ((v8 - (1 : Int32))) (fun (y26 : Int32) =>
      jlet (fun (I27 : jI) =>
      if jin (698 : Int32) 784 then (
      if jin (698 : Int32) 784 then jlet (jup I27 (rfC 164 0) ((698 : Int32)).toNatClampNeg ((I27 (rfC 164 0) ((698 : Int32)).toNatClampNeg) + (I27 164 5))) (fun (I31 : jI) =>
      some (v19, I31)) else none) else none) (fun (k28 : jI → Option (Int32 × jI)) =>
      jfx (X7_looks_F1 164 (nI p) v19 k28) (fun _ _ => none) 1000 y26 I24))) (fun (k25 : jI → Option (Int32 × jI)) =>
      if (I21 (rfC 164 0) ((689 : Int32)).toNatClampNeg) = (2 : Int32) then (
      if v8 ≤ 0 then (
      k25 I21)
      else (
      (X7_places 10 164 (0 : Int32) (nI p) v19 v20 I21).bind (fun (I42 : jI) =>
      k25 I42)))
      else (
      k25 I21))) else none) (fun (k22 : Int32 → Int32 → jI → Option (Int32 × jI)) =>
      if y13 = 0 then (
      (X7_found 164 v8 (nI p) I16).bind (fun (y45 : Int32) =>
      (X7_at v8 (4 : Int32)).bind (fun (y47 : Int32) =>
      if jin y47 784 then (
      if jin y47 784 then jlet (jup I16 (rfC 164 0) (y47).toNatClampNeg ((I16 (rfC 164 0) (y47).toNatClampNeg) + (1 : Int32))) (fun (I51 : jI) =>
      (X7_of 164 v8 (1 : Int32) I51).bind (fun (y52 : Int32) =>
      jlet (jup I51 164 5 ((I51 164 5) + y52)) (fun (I54 : jI) =>
      (X7_note 164 v8 y45 (1 : Int32) I54).bind (fun (y55 : Int32) =>
      (X7_note 164 v8 y45 (2 : Int32) I54).bind (fun (y57 : Int32) =>
      (X7_slotAt v8 y45 (4 : Int32)).bind (fun (y59 : Int32) =>
      if jin (693 : Int32) 784 then (
      if jin y59 784 then jlet (jup I54 (rfC 164 0) (y59).toNatClampNeg (I54 (rfC 164 0) ((693 : Int32)).toNatClampNeg)) (fun (I63 : jI) =>
      (X7_slotAt v8 y45 (5 : Int32)).bind (fun (y64 : Int32) =>
      if jin y64 784 then (
      if jin y64 784 then jlet (jup I63 (rfC 164 0) (y64).toNatClampNeg ((I63 (rfC 164 0) (y64).toNatClampNeg) + (1 : Int32))) (fun (I68 : jI) =>
      (X7_slotAt v8 y45 (6 : Int32)).bind (fun (y69 : Int32) =>
      if jin y69 784 then jlet (jup I68 (rfC 164 0) (y69).toNatClampNeg (1 : Int32)) (fun (I72 : jI) =>
      if jin (689 : Int32) 784 then (
      if (I72 (rfC 164 0) ((689 : Int32)).toNatClampNeg) = (2 : Int32) then (
      if v8 ≤ 0 then (
      k22 y55 y57 I72)
      else (
      (X7_empties 164 v8 y45 I72).bind (fun (I76 : jI) =>
      k22 y55 y57 I76)))
      else (
      k22 y55 y57 I72)) else none) else none)) else none) else none)) else none) else none)))))) else none) else none)))
      else (
      if jin (692 : Int32) 784 then (
      jlet (jup I16 164 5 ((I16 164 5) + (I16 (rfC 164 0) ((692 : Int32)).toNatClampNeg))) (fun (I79 : jI) =>
      if jin (694 : Int32) 784 then (
      jlet (fun (v81 : Int32) =>
      if jin (694 : Int32) 784 then jlet (jup I79 (rfC 164 0) ((694 : Int32)).toNatClampNeg v81) (fun (I84 : jI) =>
      if jin (695 : Int32) 784 then jlet (jup I84 (rfC 164 0) ((695 : Int32)).toNatClampNeg (nI p)) (fun (I86 : jI) =>
      k22 y18 (0 : Int32) I86) else none) else none) (fun (k82 : Int32 → Option (Int32 × jI)) =>
      jlet (
      k82 (1 : Int32)) (fun (k87 : Option (Int32 × jI)) =>
      if (I79 (rfC 164 0) ((694 : Int32)).toNatClampNeg) ≤ 0 then (
      k87)
      else (
      if jin (695 : Int32) 784 then (
      if (nI p) = ((I79 (rfC 164 0) ((695 : Int32)).toNatClampNeg) + (1 : Int32)) then (
      if jin (694 : Int32) 784 then (
      k82 ((I79 (rfC 164 0) ((694 : Int32)).toNatClampNeg) + (1 : Int32))) else none)
      else (
      k87)) else none)))) else none)) else none)))) else none)))) else none) (nI j) (Nf J (nI acc) (J 164 6) m') := by
    intro J hJ
    have hN : jup (jup (jup J 165 693 (m 693 + 1)) 165 (64 + p) (m (64 + p) + 1)) 164 5 0 = Nf J 0 (J 164 6) m1 := by
      rw [jup_def J, jN, Nf_up, Nf_c, hJ, hm1]
    unfold X7_looks
    rw [if_pos (by decide), if_pos (by decide), jlet_d, show (64 : Int32) + nI p = nI (64 + p) from nI_add _ _, if_pos (jin_N (by omega) (by omega)), if_pos (jin_N (by omega) (by omega)), jlet_d, jlet_d, jlet_d, rM0, show ((693 : Int32)).toNatClampNeg = 693 from rfl, cl_N (show 64 + p < 2147483648 by omega), hJ, jup_q, ju1_ne _ _ (show 64 + p ≠ 693 by omega), hJ, hN]
    refine (k10 (Nf J 0 (J 164 6) m1) Nf_165 Nf_5 _).trans ?_
    rw [Nf_c, Nf_row]
  have hcm' : m' 688 = nI cnt := by rw [em' _ (by omega) (by omega) (by omega)]; exact hcm
  have hfm' : ∀ l, l < cnt → fnd m' l (S l) (nI p) = fnd m1 l (S l) (nI p) := fun l hl => by
    have := (hL l hl).1.1
    unfold fnd
    exact ffr_congr (fun jj _ hj => by rw [k8 _ (fun l' hl' => by omega)])
  have hpre : ∀ l, l < j → ¬ inL m' l p := fun l hl => (k6 l (by omega)).notIn hp (by rw [hfm' l (by omega)]; exact k4 l (by omega) hl)
  have hex' : mode = 2 → EXF m' cnt 0 := fun h => (hex h).of hc4 (fun l k _ h1 h2 => Or.inl (em's l k (by omega) h2))
  have hcI' : I' o 1 = nI cnt := by rw [eI'o, eI1o _ (by omega)]; exact hc
  have ho4' : I' o 4 = nI mode := by rw [eI'o, eI1o _ (by omega)]; exact ho4
  have hT' : I' o 7 = nI (T + 1) := by rw [eI'o]; exact eI17
  have hm4' : m' 689 = nI mode := by rw [em' _ (by omega) (by omega) (by omega)]; exact hm4
  by_cases hj : j < cnt
  · obtain ⟨k, hf1⟩ := k5 hj
    have hf : fnd m' j (S j) (nI p) = some k := by rw [hfm' j hj]; exact hf1
    have hLj := k6 j hj
    have hb : LB (o + 10 + 9 * j) := LB_o ho (by omega)
    have hs := hLj.1.1
    obtain ⟨hk, hkp, -⟩ := fnd_some hf
    obtain ⟨-, -, u0, u1, u2⟩ := hLj.slot (show k < 16 by omega) hkp hp
    obtain ⟨c, hc99, hcI2, hcm2⟩ := hLj.1.2.2.1
    have hhit : I' (o + 10 + 9 * j) 5 = m' (132 + 140 * j) := hLj.1.2.2.2.2.2.2.1
    have hh := hLj.num (f := 5) (w := 4) (x := I' (o + 10 + 9 * j) 5 + 1) (y := m' (132 + 140 * j) + 1) (by omega) (by rw [hhit])
    rw [show 128 + 140 * j + 4 = 132 + 140 * j by omega] at hh
    have ht := hh.tou (k := k) (t := T + 1) (by omega) (by omega)
    obtain ⟨I2, hI2⟩ : ∃ I2, I2 = touI (o + 10 + 9 * j) k (nI (T + 1)) (jup I' (o + 10 + 9 * j) 5 (I' (o + 10 + 9 * j) 5 + 1)) := ⟨_, rfl⟩
    obtain ⟨m3, hm3⟩ : ∃ m3, m3 = mTou (ju1 m' (132 + 140 * j) (m' (132 + 140 * j) + 1)) j k (nI (T + 1)) := ⟨_, rfl⟩
    rw [← hI2, ← hm3] at ht
    have eI2 : ∀ r, (r < o + 10 + 9 * j ∨ o + 10 + 9 * j + 9 ≤ r ∨ r = o + 10 + 9 * j + 1 ∨ r = o + 10 + 9 * j + 2 ∨ r = o + 10 + 9 * j + 3) → I2 r = I' r := fun r hr => by rw [hI2]; unfold touI; simp (disch := omega) only [jup_ne]
    have em3 : ∀ w, (∀ i, i = 4 ∨ i = 5 ∨ i = 6 → w ≠ 140 + 140 * j + 7 * k + i) → w ≠ 132 + 140 * j → m3 w = m' w := fun w h1 h2 => by
      have a4 := h1 4 (by omega)
      have a5 := h1 5 (by omega)
      have a6 := h1 6 (by omega)
      rw [hm3]; unfold mTou; rw [ju1_ne _ _ a6, ju1_ne _ _ a5, ju1_ne _ _ a4, ju1_ne _ _ h2]
    obtain ⟨g, hg⟩ : ∃ g, g = m' (140 + 140 * j + 7 * k + 1) := ⟨_, rfl⟩
    obtain ⟨I3, hI3⟩ : ∃ I3, I3 = jup (jup I2 o 16 (nI (j + 1))) o 17 g := ⟨_, rfl⟩
    have eI3 : ∀ r, r ≠ o → I3 r = I2 r := fun r hr => by rw [hI3, jup_ne _ _ hr, jup_ne _ _ hr]
    have eI3o : ∀ f, f ≠ 16 → f ≠ 17 → I3 o f = I' o f := fun f h1 h2 => by rw [hI3, jup_q, ju1_ne _ _ h2, jup_q, ju1_ne _ _ h1, eI2 o (by omega)]
    have eI316 : I3 o 16 = nI (j + 1) := by rw [hI3, jup_q, ju1_ne _ _ (by omega), jup_q, ju1_eq]
    have eI317 : I3 o 17 = g := by rw [hI3, jup_q, ju1_eq]
    have hLoop : X4_lookFor o (nI p) (jup I o 7 (I o 7 + 1)) = some (nI (acc + c), I3) := by
      unfold X4_lookFor
      rw [jlet_d, ← hI1]
      show jfx (X4_lookFor_F1 o (nI p) _) (fun _ _ _ => none) 1000 (nI 0) (nI (0 + 1)) I1 = _
      rw [k9]
      obtain ⟨n, hn⟩ : ∃ n, 1000 - (j - 0) = n + 1 := ⟨999 - j, by omega⟩
      have hx : I2 (o + 10 + 9 * j + 2) k = g := by rw [eI2 _ (by omega), u0, hg]
      rw [hn, jfx_s, X4_lookFor_F1, hcI', if_neg (nI_nlt (by omega) (by omega)), levelAt_e ho I' hcI' hc4 hj, ob_some, jlet_d, if_neg hb.1, jlet_d, hLj.slotOf hb hp, hf, show oI (some k) = nI k from rfl, ob_some, if_neg (m1_ne (by omega)), jlet_d, touch_e hb (by omega), ob_some, jup_ne _ _ (show o ≠ o + 10 + 9 * j by omega), hT', ← hI2, jlet_d, valueIn_e hb (by omega), ob_some, jup_ne _ _ (show o + 10 + 9 * j + 2 ≠ o by omega), hx, jlet_d, ← hI3, hcI2, nI_add]
    have hLA : ∀ l, l < cnt → LR (B + 1) (o + 10 + 9 * l) I3 m3 l (S l) := fun l hl => by
      by_cases e : l = j
      · subst e; exact ht.congr (fun r a b => eI3 r (by omega)) (fun _ _ _ => rfl)
      · exact ((k6 l hl).mono (by omega)).congr (fun r a b => by rw [eI3 r (by omega), eI2 r (by omega)]) (fun w a b => em3 w (fun i hi => by omega) (by omega))
    have hHA : STH o cnt mode (T + 1) I3 m3 := ⟨by rw [eI3o _ (by omega) (by omega)]; exact hcI', by rw [em3 _ (fun i hi => by omega) (by omega)]; exact hcm', by rw [eI3o _ (by omega) (by omega)]; exact ho4', by rw [em3 _ (fun i hi => by omega) (by omega)]; exact hm4', by rw [eI3o _ (by omega) (by omega)]; exact hT', by rw [em3 _ (fun i hi => by omega) (by omega)]; exact em'3⟩
    have hDA : SD (B + 1) o I3 m3 := hSD'.congr (by rw [eI3 _ (by omega), eI2 _ (by omega)]) (eI3o _ (by omega) (by omega)) (by rw [eI3 _ (by omega), eI2 _ (by omega)]) (eI3o _ (by omega) (by omega)) (fun i hi => em3 i (fun i hi => by omega) (by omega))
    have hslot3 : ∀ l kk, l < 4 → kk < 16 → m3 (140 + 140 * l + 7 * kk) = m' (140 + 140 * l + 7 * kk) := fun l kk h1 h2 => em3 _ (fun i hi => by omega) (by omega)
    have hexA : mode = 2 → EXF m3 cnt 0 := fun h => (hex' h).of hc4 (fun l kk _ h1 h2 => Or.inl (hslot3 l kk (by omega) h2))
    have hfrA : ∀ r, (r < o ∨ (o < r ∧ r < o + 10) ∨ o + 46 ≤ r) → I3 r = I r := fun r hr => by rw [eI3 r (by omega), eI2 r (by omega), eI' r hr]
    have hfoA : ∀ f, f ≠ 7 → f ≠ 16 → f ≠ 17 → I3 o f = I o f := fun f h1 h2 h3 => by rw [eI3o f h2 h3, eI'o, eI1o f h1]
    have hmA : ∀ w, (w < 128 ∨ 688 ≤ w) → w ≠ 693 → w ≠ 64 + p → m3 w = m w := fun w h1 h2 h3 => by rw [em3 w (fun i hi => by omega) (by omega), em' w h1 h2 h3]
    have hmAp : m3 (64 + p) = m (64 + p) + 1 := by rw [em3 _ (fun i hi => by omega) (by omega), em'p]
    have hkp3 : m3 (140 + 140 * j + 7 * k) = nI p := by rw [hslot3 j k (by omega) (by omega)]; exact hkp
    have hdd3 : m3 (140 + 140 * j + 7 * k + 2) = m' (140 + 140 * j + 7 * k + 2) := em3 _ (fun i hi => by omega) (by omega)
    have hmod : ∀ J : jI, J 165 = m → X7_looks 164 (nI p) J = if mode = 2 then (if nI j ≤ 0 then tailM (nI p) (nI j) g (m' (140 + 140 * j + 7 * k + 2)) (Nf J (nI (acc + c)) (nI (j + 1)) m3) else tailM (nI p) (nI j) g (m' (140 + 140 * j + 7 * k + 2)) (Nf J (nI (acc + c)) (nI (j + 1)) (mRel m3 j k))) else tailM (nI p) (nI j) g (m' (140 + 140 * j + 7 * k + 2)) (Nf J (nI (acc + c)) (nI (j + 1)) m3) := by
      intro J hJ
      rw [front J hJ]
      dsimp only
      rw [if_pos (show jin (688 : Int32) 784 by decide), show ((688 : Int32)).toNatClampNeg = 688 from rfl, rM0, Nf_165, hcm', if_neg (show ¬ nI j = nI cnt from fun e => by have := (nI_eq (a := j) (b := cnt) (by omega) (by omega)).mp e; omega), jlet_d, if_pos rfl, jlet_d, Nf_h, jlet_d, if_pos (jin_N (by omega) (by omega)), jlet_d, jlet_d, if_pos rfl]
      rw [found_e (by omega) hs.2 (by rw [Nf_165]; exact hLj.1.2.1.2), Nf_165, hf, show oI (some k) = nI k from rfl, ob_some, at_e 4 j 4 rfl, ob_some, if_pos (jin_N (by omega) (by omega)), if_pos (jin_N (by omega) (by omega)), jlet_d, cl_N (by omega), Nf_up, show 128 + 140 * j + 4 = 132 + 140 * j by omega]
      rw [of_e 1 j 1 rfl (by omega), ob_some, Nf_165, ju1_ne _ _ (show 128 + 140 * j + 1 ≠ 132 + 140 * j by omega), show 128 + 140 * j + 1 = 129 + 140 * j by omega, hcm2, jlet_d, Nf_5, nI_add, Nf_c]
      rw [note_e 1 j k 1 rfl (by omega), ob_some, note_e 2 j k 2 rfl (by omega), ob_some, slotAt_e 4 j k 4 rfl, ob_some, if_pos (show jin (693 : Int32) 784 by decide), if_pos (jin_N (by omega) (by omega)), jlet_d, show ((693 : Int32)).toNatClampNeg = 693 from rfl, Nf_165, ju1_ne _ _ (show 693 ≠ 132 + 140 * j by omega), em'3, cl_N (by omega), Nf_up]
      rw [slotAt_e 5 j k 5 rfl, ob_some, if_pos (jin_N (by omega) (by omega)), if_pos (jin_N (by omega) (by omega)), jlet_d, cl_N (by omega), Nf_165, Nf_up, ju1_ne _ _ (show 140 + 140 * j + 7 * k + 5 ≠ 140 + 140 * j + 7 * k + 4 by omega)]
      rw [slotAt_e 6 j k 6 rfl, ob_some, if_pos (jin_N (by omega) (by omega)), jlet_d, cl_N (by omega), Nf_up, if_pos (show jin (689 : Int32) 784 by decide), show ((689 : Int32)).toNatClampNeg = 689 from rfl]
      rw [show ju1 (ju1 (ju1 (ju1 m' (132 + 140 * j) (m' (132 + 140 * j) + 1)) (140 + 140 * j + 7 * k + 4) (nI (T + 1))) (140 + 140 * j + 7 * k + 5) (ju1 m' (132 + 140 * j) (m' (132 + 140 * j) + 1) (140 + 140 * j + 7 * k + 5) + 1)) (140 + 140 * j + 7 * k + 6) 1 = m3 from hm3.symm, ju1_ne _ _ (show 140 + 140 * j + 7 * k + 1 ≠ 132 + 140 * j by omega), ju1_ne _ _ (show 140 + 140 * j + 7 * k + 2 ≠ 132 + 140 * j by omega), ← hg, Nf_165, hHA.2.2.2.1, show nI j + (1 : Int32) = nI (j + 1) from nI_1 j]
      by_cases h2 : mode = 2
      · rw [if_pos (show nI mode = (2 : Int32) by rw [h2]; rfl), if_pos h2]
        by_cases h3 : nI j ≤ 0
        · rw [if_pos h3, if_pos h3]
          rfl
        · rw [if_neg h3, if_neg h3]
          unfold X7_empties
          rw [slotAt_e 0 j k 0 rfl, ob_some, if_pos (jin_N (by omega) (by omega)), jlet_d, ob_some, rM0, cl_N (by omega), Nf_up]
          rfl
      · rw [if_neg (nI_cne (x := (2 : Int32)) (b := 2) rfl (by omega) (by omega) h2), if_neg h2]
        rfl
    by_cases hA : mode = 2 ∧ 0 < j
    · obtain ⟨h2, h0⟩ := hA
      have hrel := (hLA j hj).rel (k := k) (by omega) hp hkp3
      have er : ∀ r, (r < o + 10 + 9 * j ∨ o + 10 + 9 * j + 9 ≤ r) → relI (o + 10 + 9 * j) k p I3 r = I3 r := fun r hr => by unfold relI; simp (disch := omega) only [jup_ne]
      have em : ∀ w, w ≠ 140 + 140 * j + 7 * k → mRel m3 j k w = m3 w := fun w hw => by unfold mRel; rw [ju1_ne _ _ hw]
      have hpC : I3 (o + 10 + 9 * j + 1) k = nI p := by rw [eI3 _ (by omega), eI2 _ (by omega), (hLj.2.1 k (by omega)).1, hkp]
      have hdC : I3 (o + 10 + 9 * j + 3) k = m' (140 + 140 * j + 7 * k + 2) := by rw [eI3 _ (by omega), eI2 _ (by omega), u1]
      have hsl : ∀ l kk, l < 4 → kk < 16 → mRel m3 j k (140 + 140 * l + 7 * kk) = m3 (140 + 140 * l + 7 * kk) ∨ mRel m3 j k (140 + 140 * l + 7 * kk) = -1 := fun l kk h1 h2 => by
        unfold mRel
        by_cases e : 140 + 140 * l + 7 * kk = 140 + 140 * j + 7 * k
        · rw [e, ju1_eq]; exact Or.inr rfl
        · rw [ju1_ne _ _ e]; exact Or.inl rfl
      refine ⟨j, acc + c, j + 1, g, m' (140 + 140 * j + 7 * k + 2), I3, relI (o + 10 + 9 * j) k p I3, mRel m3 j k, ⟨by omega, by omega, by rw [if_pos hj], u2, fun h => absurd h2 h⟩, hLoop, ?_, fun J hJ => ⟨_, fun _ _ => rfl, ?_⟩, ⟨?_, ?_⟩, fun l hl => ?_, hHA.keep (fun f _ _ => by rw [er o (by omega)]) (fun i h1 _ _ _ => em i (by omega)), hDA.congr (er _ (by omega)) (by rw [er _ (by omega)]) (by rw [er _ (by omega)]) (by rw [er _ (by omega)]) (fun i hi => em i (by omega)), fun h => (hexA h).of hc4 (fun l kk _ h1 h2 => hsl l kk (by omega) h2), fun h => absurd h2 h, fun _ _ l hl => ?_, fun r hr => by rw [er r (by omega), hfrA r hr], fun f h1 h2 h3 => by rw [er o (by omega), hfoA f h1 h2 h3], fun w h1 h2 h3 _ _ => by rw [em w (by omega), hmA w h1 h2 h3], by rw [em _ (by omega), hmAp], fun _ => ⟨by rw [em _ (by omega), hmA _ (by omega) (by omega) (by omega)], by rw [em _ (by omega), hmA _ (by omega) (by omega) (by omega)]⟩, fun h => by omega⟩
      · unfold X4_leaveToComeNear
        rw [eI316, levelAt_e ho I3 hHA.1 hc4 hj, ob_some, hHA.2.2.1, if_pos (show nI mode = (2 : Int32) by rw [h2]; rfl), if_neg (nI_cne (x := (1 : Int32)) (b := 1) rfl (by omega) (by omega) (by omega)), if_neg hb.1]
        have hfA : fnd m3 j (S j) (nI p) = some k := by
          have := hs.2
          rw [← hf]
          unfold fnd
          exact ffr_congr (fun jj _ hjj => by rw [hslot3 j jj (by omega) (by omega)])
        rw [(hLA j hj).slotOf hb hp, hfA, ob_some, show oI (some k) = nI k from rfl, isDirty_e hb (by omega) I3 (by rw [hdC]; exact u2), ob_some, release_e hb (by omega) hp I3 hpC, jb2_some, hdC, if_pos u2]
      · rw [hmod J hJ, if_pos h2, if_neg (by rw [le0_N (by omega)]; omega)]
      · rw [er o (by omega), eI316]
      · rw [er o (by omega), eI317]
      · by_cases e : l = j
        · subst e; exact hrel
        · exact (hLA l hl).congr (fun r a b => er r (by omega)) (fun w a b => em w (by omega))
      · intro ⟨kk, q1, q2⟩
        by_cases e : l = j
        · subst e
          by_cases e2 : kk = k
          · subst e2
            unfold mRel at q2
            rw [ju1_eq] at q2
            exact m1_ne (by omega) q2.symm
          · rw [em _ (by omega)] at q2
            exact e2 ((hLA l hl).uniq hp q1 (by omega) q2 hkp3)
        · rw [em _ (by omega)] at q2
          by_cases e3 : l < j
          · exact hexA h2 l j p (by omega) e3 hj hp ⟨kk, q1, q2⟩ ⟨k, by omega, hkp3⟩
          · exact hexA h2 j l p (by omega) (by omega) hl hp ⟨k, by omega, hkp3⟩ ⟨kk, q1, q2⟩
    · refine ⟨j, acc + c, j + 1, g, 0, I3, I3, m3, ⟨by omega, by omega, by rw [if_pos hj], Or.inl rfl, fun _ => rfl⟩, hLoop, ?_, fun J hJ => ⟨m' (140 + 140 * j + 7 * k + 2), fun h1 h2 => absurd ⟨h1, h2⟩ hA, ?_⟩, ⟨eI316, eI317⟩, hLA, hHA, hDA, hexA, fun h l hl hin => ?_, fun h1 h2 => absurd ⟨h1, h2⟩ hA, hfrA, hfoA, fun w h1 h2 h3 _ _ => hmA w h1 h2 h3, hmAp, fun _ => ⟨hmA _ (by omega) (by omega) (by omega), hmA _ (by omega) (by omega) (by omega)⟩, fun h => by omega⟩
      · unfold X4_leaveToComeNear
        rw [eI316, levelAt_e ho I3 hHA.1 hc4 hj, ob_some, hHA.2.2.1]
        by_cases h2 : mode = 2
        · rw [if_pos (show nI mode = (2 : Int32) by rw [h2]; rfl), if_pos (show nI (j + 1) = (1 : Int32) by rw [show j = 0 by omega]; rfl)]
        · rw [if_neg (nI_cne (x := (2 : Int32)) (b := 2) rfl (by omega) (by omega) h2)]
      · rw [hmod J hJ]
        by_cases h2 : mode = 2
        · rw [if_pos h2, if_pos (by rw [le0_N (by omega)]; omega)]
        · rw [if_neg h2]
      · exact hpre l hl (hin.of (fun kk hkk => (hslot3 l kk (by omega) hkk).symm ▸ rfl))
  · have hjc : j = cnt := by omega
    subst hjc
    obtain ⟨I3, hI3⟩ : ∃ I3, I3 = jup (jup I' o 16 0) o 17 (m' p) := ⟨_, rfl⟩
    obtain ⟨mA, hmA⟩ : ∃ mA, mA = ju1 (ju1 m' 694 (runM m p)) 695 (nI p) := ⟨_, rfl⟩
    have eI3 : ∀ r, r ≠ o → I3 r = I' r := fun r hr => by rw [hI3, jup_ne _ _ hr, jup_ne _ _ hr]
    have eI3o : ∀ f, f ≠ 16 → f ≠ 17 → I3 o f = I' o f := fun f h1 h2 => by rw [hI3, jup_q, ju1_ne _ _ h2, jup_q, ju1_ne _ _ h1]
    have eI316 : I3 o 16 = 0 := by rw [hI3, jup_q, ju1_ne _ _ (by omega), jup_q, ju1_eq]
    have eI317 : I3 o 17 = m' p := by rw [hI3, jup_q, ju1_eq]
    have eA : ∀ w, w ≠ 694 → w ≠ 695 → mA w = m' w := fun w h1 h2 => by rw [hmA, ju1_ne _ _ h2, ju1_ne _ _ h1]
    have eA4 : mA 694 = runM m p := by rw [hmA, ju1_ne _ _ (by omega), ju1_eq]
    have eA5 : mA 695 = nI p := by rw [hmA, ju1_eq]
    have hmem : I' (o + 2) p = m' p := hSD'.1 p hp
    have hfI3 : I' o 3 = nI far := by rw [eI'o, eI1o _ (by omega)]; exact hfI
    have hfm3 : m' 692 = nI far := by rw [em' _ (by omega) (by omega) (by omega)]; exact hfm
    refine ⟨j, acc + far, 0, m' p, 0, I3, I3, mA, ⟨k2, by omega, by rw [if_neg hj], Or.inl rfl, fun _ => rfl⟩, ?_, ?_, fun J hJ => ⟨0, fun _ _ => rfl, ?_⟩, ⟨eI316, eI317⟩, fun l hl => ((k6 l hl).mono (by omega)).congr (fun r a b => eI3 r (by omega)) (fun w a b => eA w (by omega) (by omega)), ⟨by rw [eI3o _ (by omega) (by omega)]; exact hcI', by rw [eA _ (by omega) (by omega)]; exact hcm', by rw [eI3o _ (by omega) (by omega)]; exact ho4', by rw [eA _ (by omega) (by omega)]; exact hm4', by rw [eI3o _ (by omega) (by omega)]; exact hT', by rw [eA _ (by omega) (by omega)]; exact em'3⟩, hSD'.congr (eI3 _ (by omega)) (eI3o _ (by omega) (by omega)) (by rw [eI3 _ (by omega)]) (eI3o _ (by omega) (by omega)) (fun i hi => eA i (by omega) (by omega)), fun h => (hex' h).of hc4 (fun l kk _ h1 h2 => Or.inl (eA _ (by omega) (by omega))), fun _ l hl hin => hpre l hl (hin.of (fun kk hkk => eA (140 + 140 * l + 7 * kk) (by omega) (by omega))), fun _ _ l hl hin => hpre l hl (hin.of (fun kk hkk => eA (140 + 140 * l + 7 * kk) (by omega) (by omega))), fun r hr => by rw [eI3 r (by omega), eI' r hr], fun f h1 h2 h3 => by rw [eI3o f h2 h3, eI'o, eI1o f h1], fun w h1 h2 h3 h4 h5 => by rw [eA w h4 h5, em' w h1 h2 h3], by rw [eA _ (by omega) (by omega), em'p], fun h => absurd h hj, fun _ => ⟨eA4, eA5⟩⟩
    · unfold X4_lookFor
      rw [jlet_d, ← hI1]
      show jfx (X4_lookFor_F1 o (nI p) _) (fun _ _ _ => none) 1000 (nI 0) (nI (0 + 1)) I1 = _
      rw [k9]
      obtain ⟨n, hn⟩ : ∃ n, 1000 - (j - 0) = n + 1 := ⟨999 - j, by omega⟩
      rw [hn, jfx_s, X4_lookFor_F1, hcI', if_pos (nI_lt (by omega) (by omega)), jlet_d, inMem_e ho hp, ob_some, jup_ne _ _ (show o + 2 ≠ o by omega), hmem, jlet_d, ← hI3, eI3o 3 (by omega) (by omega), hfI3, nI_add]
    · unfold X4_leaveToComeNear
      rw [eI316, show (0 : Int32) = nI 0 from rfl, levelAt_no I3 (eI3o 1 (by omega) (by omega) |>.trans hcI') hc4 (Or.inl rfl) (by omega), ob_some]
      by_cases h2 : I3 o 4 = (2 : Int32)
      · rw [if_pos h2, if_neg (by decide), if_pos rfl]
      · rw [if_neg h2]
    · rw [front J hJ]
      dsimp only
      rw [if_pos (show jin (688 : Int32) 784 by decide), show ((688 : Int32)).toNatClampNeg = 688 from rfl, rM0, Nf_165, hcm', if_pos rfl, jlet_d, if_neg (by decide), jlet_d, Nf_h, jlet_d, if_pos (jin_N (by omega) (by omega)), jlet_d, jlet_d, if_neg (by decide), if_pos (show jin (692 : Int32) 784 by decide), show ((692 : Int32)).toNatClampNeg = 692 from rfl, Nf_5, Nf_165, hfm3, nI_add, Nf_c, jlet_d, if_pos (show jin (694 : Int32) 784 by decide), jlet_d, show ((694 : Int32)).toNatClampNeg = 694 from rfl, show ((695 : Int32)).toNatClampNeg = 695 from rfl, cl_N (by omega), Nf_165, jlet_d]
      have hK : ∀ v81 : Int32, (if jin (694 : Int32) 784 then jlet (jup (Nf J (nI (acc + far)) 0 m') 165 694 v81) (fun (I84 : jI) => if jin (695 : Int32) 784 then jlet (jup I84 165 695 (nI p)) (fun (I86 : jI) => tailM (nI p) (nI j) (m' p) 0 I86) else none) else none) = tailM (nI p) (nI j) (m' p) 0 (Nf J (nI (acc + far)) 0 (ju1 (ju1 m' 694 v81) 695 (nI p))) := fun v81 => by
        rw [if_pos (by decide), jlet_d, if_pos (by decide), jlet_d, Nf_up, Nf_up]
      have h4 : m' 694 = m 694 := em' _ (by omega) (by omega) (by omega)
      have h5 : m' 695 = m 695 := em' _ (by omega) (by omega) (by omega)
      rw [h4, h5, hmA]
      unfold runM
      by_cases c1 : m 694 ≤ 0
      · rw [if_pos c1, if_pos c1]
        exact hK 1
      · rw [if_neg c1, if_neg c1, if_pos (show jin (695 : Int32) 784 by decide)]
        by_cases c2 : nI p = m 695 + 1
        · rw [if_pos c2, if_pos c2, if_pos (show jin (694 : Int32) 784 by decide)]
          exact hK _
        · rw [if_neg c2, if_neg c2]
          exact hK 1
