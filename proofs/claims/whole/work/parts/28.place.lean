/-! PLACING a page, on both sides -/
theorem ob_id {α : Type} (x : Option α) : x.bind (fun a => some a) = x := by cases x <;> rfl
def inL (m : Mn) (l q : Nat) : Prop := ∃ k, k < 16 ∧ m (140 + 140 * l + 7 * k) = nI q
def EXF (m : Mn) (cnt l : Nat) : Prop := ∀ l1 l2 q, l ≤ l1 → l1 < l2 → l2 < cnt → q < 64 → inL m l1 q → inL m l2 q → False
theorem SD.mono {B B' o : Nat} {I : jI} {m : Mn} (h : SD B o I m) (hB : B ≤ B') : SD B' o I m := by
  obtain ⟨a, b, c, x, d, e⟩ := h
  exact ⟨a, b, c, x, by omega, e⟩
theorem SD.congr {B o : Nat} {I I' : jI} {m m' : Mn} (h : SD B o I m) (h1 : I' (o + 2) = I (o + 2)) (h2 : I' o 11 = I o 11) (h3 : I' (o + 3) 0 = I (o + 3) 0) (h4 : I' o 13 = I o 13) (hm : ∀ i, (i < 64 ∨ i = 697 ∨ i = 699 ∨ i = 700) → m' i = m i) : SD B o I' m' := by
  obtain ⟨a, b, c, x, d, e, f⟩ := h
  refine ⟨fun p hp => ?_, ?_, ?_, x, d, ?_, ?_⟩
  · rw [h1, hm _ (by omega)]; exact a p hp
  · rw [h2, hm _ (by omega)]; exact b
  · rw [h3, hm _ (by omega)]; exact c
  · rw [h4]; exact e
  · rw [hm _ (by omega)]; exact f
def STH (o cnt mode T : Nat) (I : jI) (m : Mn) : Prop := I o 1 = nI cnt ∧ m 688 = nI cnt ∧ I o 4 = nI mode ∧ m 689 = nI mode ∧ I o 7 = nI T ∧ m 693 = nI T
theorem STH.keep {o cnt mode T : Nat} {I I' : jI} {m m' : Mn} (h : STH o cnt mode T I m) (h1 : ∀ j, j ≠ 11 → j ≠ 13 → I' o j = I o j) (h2 : ∀ i, 688 ≤ i → i ≠ 697 → i ≠ 699 → i ≠ 700 → m' i = m i) : STH o cnt mode T I' m' := by
  obtain ⟨a, b, c, d, e, f⟩ := h
  exact ⟨by rw [h1 _ (by omega) (by omega)]; exact a, by rw [h2 _ (by omega) (by omega) (by omega) (by omega)]; exact b, by rw [h1 _ (by omega) (by omega)]; exact c, by rw [h2 _ (by omega) (by omega) (by omega) (by omega)]; exact d, by rw [h1 _ (by omega) (by omega)]; exact e, by rw [h2 _ (by omega) (by omega) (by omega) (by omega)]; exact f⟩
def outsM (rec : Nat → Int32 → Int32 → Int32 → Int32 → jI → Option jI) (l k y1 v10 v11 : Int32) (I12 : jI) : Option jI :=

(X7_empties 164 l k I12).bind (fun (I14 : jI) =>
(X7_at l (8 : Int32)).bind (fun (y16 : Int32) =>
if jin y16 784 then (
if jin y16 784 then jlet (jup I14 (rfC 164 0) (y16).toNatClampNeg ((I14 (rfC 164 0) (y16).toNatClampNeg) + (1 : Int32))) (fun (I20 : jI) =>
if jin (689 : Int32) 784 then (
jlet (
if v11 = 0 then (
some I20)
else (
(X7_flushes 164 l y1 v10 I20).bind (fun (I24 : jI) =>
some I24))) (fun (k22 : Option (jI)) =>
if (I20 (rfC 164 0) ((689 : Int32)).toNatClampNeg) = (2 : Int32) then (
if jin (688 : Int32) 784 then (
if (I20 (rfC 164 0) ((688 : Int32)).toNatClampNeg) ≤ (l + (1 : Int32)) then (
k22)
else (
jlet (if v11 = 0 then (0 : Int32) else (1 : Int32)) (fun (y30 : Int32) =>
(rec 164 (l + (1 : Int32)) y1 v10 y30 I20).bind (fun (I31 : jI) =>
some I31)))) else none)
else (
k22))) else none) else none) else none))
theorem places_e (rec : Nat → Int32 → Int32 → Int32 → Int32 → jI → Option jI) (l p v d : Int32) (J : jI) : X7_placesF rec 164 l p v d J = (X7_found 164 l (-1 : Int32) J).bind (fun y1 => if 0 ≤ y1 then putsM l p v d J else jb2 (X7_victim 164 l J) (fun y46 I47 => (X7_goesOut rec 164 l y46 I47).bind (fun I49 => putsM l p v d I49))) := rfl
theorem outs_e {rec : Nat → Int32 → Int32 → Int32 → Int32 → jI → Option jI} {l k q cnt mode : Nat} (hl : l < cnt) (hc4 : cnt ≤ 4) (hk : k < 16) {m : Mn} (J : jI) (hJ : J 165 = m) (hcm : m 688 = nI cnt) (hmm : m 689 = nI mode) (hmode : mode ≤ 2) (v10 v11 : Int32) : outsM rec (nI l) (nI k) (nI q) v10 v11 J = if mode = 2 ∧ l + 1 < cnt then rec 164 (nI (l + 1)) (nI q) v10 (if v11 = 0 then 0 else 1) (jrow J 165 (mOut m l k)) else if v11 = 0 then some (jrow J 165 (mOut m l k)) else X7_flushes 164 (nI l) (nI q) v10 (jrow J 165 (mOut m l k)) := by
  have hE : ∀ (f : jI → Option jI), (X7_empties 164 (nI l) (nI k) J).bind (fun (I64 : jI) =>
          (X7_at (nI l) (8 : Int32)).bind (fun (y66 : Int32) =>
          if jin y66 784 then (
          if jin y66 784 then jlet (jup I64 (rfC 164 0) (y66).toNatClampNeg ((I64 (rfC 164 0) (y66).toNatClampNeg) + (1 : Int32))) (fun (I70 : jI) => f I70) else none) else none)) = f (jrow J 165 (mOut m l k)) := fun f => by
    unfold X7_empties
    rw [slotAt_e 0 l k 0 rfl, ob_some, if_pos (jin_N (by omega) (by omega)), jlet_d, ob_some, at_e 8 l 8 rfl, ob_some, if_pos (jin_N (by omega) (by omega)), if_pos (jin_N (by omega) (by omega)), jlet_d]
    simp (disch := omega) only [rM0, cl_N, jup_def J, jrow_jup, jrow_self, ju1_ne, hJ]
    unfold mOut
    rw [show 128 + 140 * l + 8 = 136 + 140 * l by omega, Nat.add_zero]
  have n9 : mOut m l k 689 = nI mode := by unfold mOut; rw [ju1_ne _ _ (by omega), ju1_ne _ _ (by omega)]; exact hmm
  have n8 : mOut m l k 688 = nI cnt := by unfold mOut; rw [ju1_ne _ _ (by omega), ju1_ne _ _ (by omega)]; exact hcm
  unfold outsM
  rw [hE, if_pos (by decide), jlet_d, rM0, show ((689 : Int32)).toNatClampNeg = 689 from rfl, show ((688 : Int32)).toNatClampNeg = 688 from rfl, jrow_self, n9, n8, show nI l + (1 : Int32) = nI (l + 1) from nI_1 l]
  by_cases h2 : mode = 2
  · subst h2
    rw [if_pos (show nI 2 = (2 : Int32) from rfl), if_pos (by decide)]
    by_cases h3 : l + 1 < cnt
    · rw [if_neg (nI_ge h3 (by omega)), if_pos (show 2 = 2 ∧ l + 1 < cnt from ⟨rfl, h3⟩), jlet_d, ob_id]
    · rw [if_pos (nI_le (by omega) (by omega)), if_neg (show ¬ (2 = 2 ∧ l + 1 < cnt) from fun h => h3 h.2), ob_id]
  · rw [if_neg (show ¬ nI mode = (2 : Int32) from fun e => h2 ((nI_eq (a := mode) (b := 2) (by omega) (by omega)).mp e)), if_neg (show ¬ (mode = 2 ∧ l + 1 < cnt) from fun h => h2 h.1), ob_id]
theorem goes_e {rec : Nat → Int32 → Int32 → Int32 → Int32 → jI → Option jI} {l k q mode : Nat} (hl : l < 4) (hk : k < 16) {m : Mn} (J : jI) (hJ : J 165 = m) (hmm : m 689 = nI mode) (hmode : mode ≤ 2) (hpg : m (140 + 140 * l + 7 * k) = nI q) (hdd : m (140 + 140 * l + 7 * k + 2) = 0 ∨ m (140 + 140 * l + 7 * k + 2) = 1) :
    X7_goesOut rec 164 (nI l) (nI k) J = if mode = 1 then jfx (X7_goesOut_F1 164 (nI l) (nI q) (fun v34 v35 I36 => outsM rec (nI l) (nI k) (nI q) v34 (if m (140 + 140 * l + 7 * k + 2) = 0 then (if v35 = 0 then 0 else 1) else 1) I36)) (fun _ _ _ _ => none) 1000 (m (140 + 140 * l + 7 * k + 1)) 0 0 J else outsM rec (nI l) (nI k) (nI q) (m (140 + 140 * l + 7 * k + 1)) (m (140 + 140 * l + 7 * k + 2)) J := by
  have dd : (if m (140 + 140 * l + 7 * k + 2) = (1 : Int32) then (1 : Int32) else (0 : Int32)) = m (140 + 140 * l + 7 * k + 2) := by rcases hdd with e | e <;> rw [e] <;> rfl
  unfold X7_goesOut
  rw [note_e 0 l k 0 rfl (by omega), ob_some, note_e 1 l k 1 rfl (by omega), ob_some, note_e 2 l k 2 rfl (by omega), ob_some, show 140 + 140 * l + 7 * k + 0 = 140 + 140 * l + 7 * k from rfl, hJ, hpg, dd, jlet_d, if_pos (by decide), jlet_d, rM0, show ((689 : Int32)).toNatClampNeg = 689 from rfl, hJ, hmm]
  by_cases h1 : mode = 1
  · subst h1
    rw [if_pos (show nI 1 = (1 : Int32) from rfl), if_pos rfl, jlet_d]
    rfl
  · rw [if_neg (show ¬ nI mode = (1 : Int32) from fun e => h1 ((nI_eq (a := mode) (b := 1) (by omega) (by omega)).mp e)), if_neg h1]
    rfl
theorem lotI_congr {b k p : Nat} {I X : jI} (h : ∀ r, b ≤ r → r < b + 9 → I r = X r) : ∀ r, b ≤ r → r < b + 9 → lotI b k p I r = lotI b k p X r := by
  intro r h1 h2
  have e0 := h b (by omega) (by omega)
  have er := h r h1 h2
  unfold lotI
  rw [e0]
  unfold jup jrow
  simp only [er, h b (by omega) (by omega), h (b + 1) (by omega) (by omega), h (b + 3) (by omega) (by omega), h (b + 8) (by omega) (by omega)]
  repeat' (first | rfl | split)
/-- LETTING the slot out and putting the page in its place -/
theorem fin_sim {B o l cnt k p q a T : Nat} (ho : OB o) (hc4 : cnt ≤ 4) (hl : l < cnt) {S : Nat → Nat} {I3 Y : jI} {m4 Ym : Mn} (hY : LR B (o + 10 + 9 * l) Y Ym l (S l)) (hk : k < S l) (hq : q < 64) (hpg : Ym (140 + 140 * l + 7 * k) = nI q) (hr : ∀ r, o + 10 + 9 * l ≤ r → r < o + 10 + 9 * l + 9 → I3 r = Y r)
    (hm : ∀ w, 128 + 140 * l ≤ w → w < 268 + 140 * l → m4 w = mOut Ym l k w) (hL : ∀ j, a ≤ j → j < cnt → j ≠ l → LR B (o + 10 + 9 * j) I3 m4 j (S j)) (hD : SD B o I3 m4) (hn : ∀ j, j < 16 → ¬ Ym (140 + 140 * l + 7 * j) = nI p) (hp : p < 64) (hT : I3 o 7 = nI T) (hTm : m4 693 = nI T) (hTB : T ≤ B) (hB : 1 ≤ B) {v d : Int32} (hd : d = 0 ∨ d = 1) (hfull : ∀ j, j < S l → ¬ Ym (140 + 140 * l + 7 * j) = -1) :
    ∃ I' m', (X2_letOut (o + 10 + 9 * l) (nI k) I3).bind (fun (I8 : jI) => (X2_hold (o + 10 + 9 * l) (nI k) (nI p) (I8 o 13) (I8 o 7) I8).bind (fun (I10 : jI) => (X2_change (o + 10 + 9 * l) (nI k) v d I10).bind (fun (I12 : jI) => jlet (jup I12 o 13 ((I12 o 13) + (1 : Int32))) (fun (I14 : jI) => some I14)))) = some I' ∧
      (∀ J : jI, J 165 = m4 → putsM (nI l) (nI p) v d J = some (jrow J 165 m')) ∧ (∀ j, a ≤ j → j < cnt → LR (B + 1) (o + 10 + 9 * j) I' m' j (S j)) ∧ SD (B + 1) o I' m' ∧ (∀ r j, (r < o + 10 + 9 * l ∨ o + 10 + 9 * l + 9 ≤ r) → (r ≠ o ∨ j ≠ 13) → I' r j = I3 r j) ∧ (∀ i, i ≠ 700 → (i < 128 + 140 * l ∨ 268 + 140 * l ≤ i) → m' i = m4 i) ∧
      (∀ j, j < 16 → m' (140 + 140 * l + 7 * j) = nI p ∨ m' (140 + 140 * l + 7 * j) = -1 ∨ (j ≠ k ∧ m' (140 + 140 * l + 7 * j) = Ym (140 + 140 * l + 7 * j))) := by
  have hs := hY.1.1
  have hb : LB (o + 10 + 9 * l) := LB_o ho (by omega)
  have hsl : ∀ j, j < 16 → m4 (140 + 140 * l + 7 * j) = if j = k then -1 else Ym (140 + 140 * l + 7 * j) := fun j hj => by
    rw [hm _ (by omega) (by omega)]
    unfold mOut
    rw [ju1_ne _ _ (by omega)]
    by_cases e : j = k
    · subst e; rw [ju1_eq, if_pos rfl]
    · rw [ju1_ne _ _ (by omega), if_neg e]
  have hpC : I3 (o + 10 + 9 * l + 1) k = nI q := by rw [hr _ (by omega) (by omega), (hY.2.1 k (by omega)).1, hpg]
  have hO := hY.out (show k < 16 by omega) hq hpg
  have eo : ∀ r, (r < o + 10 + 9 * l ∨ o + 10 + 9 * l + 9 ≤ r) → lotI (o + 10 + 9 * l) k q I3 r = I3 r := fun r hr => by unfold lotI; simp (disch := omega) only [jup_ne]
  have hLl : LR B (o + 10 + 9 * l) (lotI (o + 10 + 9 * l) k q I3) m4 l (S l) := hO.congr (lotI_congr hr) hm
  have hfd : fnd m4 l (S l) (-1) = some k := by
    unfold fnd
    refine ffr_of (by omega) (by omega) ?_ (fun j _ hj => ?_)
    · rw [hsl k (by omega), if_pos rfl]; rfl
    · rw [hsl j (by omega), if_neg (by omega)]
      simpa using hfull j (by omega)
  have hn4 : ∀ j, j < 16 → ¬ m4 (140 + 140 * l + 7 * j) = nI p := fun j hj e => by
    rw [hsl j hj] at e
    split at e
    · exact m1_ne (by omega) e.symm
    · exact hn j hj e
  obtain ⟨I', m', e1, e2, e3, e4, e5, e6, e7⟩ := put_sim ho (by omega) hLl (hD.congr (eo _ (by omega)) (by rw [eo _ (by omega)]) (by rw [eo _ (by omega)]) (by rw [eo _ (by omega)]) (fun i _ => rfl)) hfd hn4 hp (by rw [eo _ (by omega)]; exact hT) hTm hTB hB (v := v) hd
  refine ⟨I', m', ?_, e2, fun j h1 h2 => ?_, e4, fun r j h1 h2 => ?_, e6, fun j hj => ?_⟩
  · rw [letOut_e hb (by omega) hq I3 hpC, ob_some]; exact e1
  · by_cases e : j = l
    · subst e; exact e3
    · refine ((hL j h1 h2 e).congr (fun r a b => ?_) (fun i a b => e6 i (by omega) (by omega))).mono (by omega)
      funext x
      rw [e5 r x (by omega) (by omega), eo _ (by omega)]
  · rw [e5 r j h1 h2, eo _ h1]
  · rcases e7 j hj with e | e
    · exact Or.inl e
    · rw [hsl j hj] at e
      by_cases h : j = k
      · rw [if_pos h] at e; exact Or.inr (Or.inl e)
      · rw [if_neg h] at e; exact Or.inr (Or.inr ⟨h, e⟩)
