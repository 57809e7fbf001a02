/-! the model beside its row: its two numbers of an access -/
def Nf (J : jI) (c h : Int32) (x : Mn) : jI := jrow (jrow J 164 (ju1 (ju1 (J 164) 5 c) 6 h)) 165 x
theorem Nf_165 {J : jI} {c h : Int32} {x : Mn} : Nf J c h x 165 = x := jrow_self _ _ _
theorem Nf_164 {J : jI} {c h : Int32} {x : Mn} : Nf J c h x 164 = ju1 (ju1 (J 164) 5 c) 6 h := by unfold Nf; rw [jrow_ne _ _ (by omega), jrow_self]
theorem Nf_5 {J : jI} {c h : Int32} {x : Mn} : Nf J c h x 164 5 = c := by rw [Nf_164, ju1_ne _ _ (by omega), ju1_eq]
theorem Nf_6 {J : jI} {c h : Int32} {x : Mn} : Nf J c h x 164 6 = h := by rw [Nf_164, ju1_eq]
theorem Nf_row {J : jI} {c h : Int32} {x y : Mn} : jrow (Nf J c h x) 165 y = Nf J c h y := jrow_jrow _ _ _ _
theorem Nf_up {J : jI} {c h : Int32} {x : Mn} {i : Nat} {v : Int32} : jup (Nf J c h x) 165 i v = Nf J c h (ju1 x i v) := by rw [jup_def, Nf_165, Nf_row]
theorem Nf_c {J : jI} {c h : Int32} {x : Mn} {v : Int32} : jup (Nf J c h x) 164 5 v = Nf J v h x := by
  rw [jup_def, Nf_164]
  unfold Nf
  rw [jrow_comm _ _ _ (by omega), jrow_jrow]
  congr 2
  funext k
  by_cases h5 : k = 5
  · subst h5; rw [ju1_eq, ju1_ne _ _ (by omega), ju1_eq]
  · rw [ju1_ne _ _ h5]
    by_cases h6 : k = 6
    · subst h6; rw [ju1_eq, ju1_eq]
    · rw [ju1_ne _ _ h6, ju1_ne _ _ h6, ju1_ne _ _ h5, ju1_ne _ _ h5]
theorem Nf_h {J : jI} {c h : Int32} {x : Mn} {v : Int32} : jup (Nf J c h x) 164 6 v = Nf J c v x := by
  rw [jup_def, Nf_164]
  unfold Nf
  rw [jrow_comm _ _ _ (by omega), jrow_jrow]
  congr 2
  funext k
  by_cases h6 : k = 6
  · subst h6; rw [ju1_eq, ju1_eq]
  · rw [ju1_ne _ _ h6, ju1_ne _ _ h6, ju1_ne _ _ h6]
theorem Nf_of {J : jI} {c h : Int32} {x : Mn} (h1 : J 165 = x) (h2 : J 164 5 = c) (h3 : J 164 6 = h) : J = Nf J c h x := by
  subst h1 h2 h3
  funext r k
  by_cases e : r = 165
  · subst e; rw [Nf_165]
  · by_cases e2 : r = 164
    · subst e2
      rw [Nf_164]
      by_cases h6 : k = 6
      · subst h6; rw [ju1_eq]
      · rw [ju1_ne _ _ h6]
        by_cases h5 : k = 5
        · subst h5; rw [ju1_eq]
        · rw [ju1_ne _ _ h5]
    · unfold Nf
      rw [jrow_ne _ _ e, jrow_ne _ _ e2]
theorem Nf_Nf {J : jI} {c h c' h' : Int32} {x x' : Mn} : Nf (Nf J c h x) c' h' x' = Nf J c' h' x' := by
  funext r k
  by_cases e : r = 165
  · subst e; rw [Nf_165, Nf_165]
  · by_cases e2 : r = 164
    · subst e2
      rw [Nf_164, Nf_164, Nf_164]
      by_cases h6 : k = 6
      · subst h6; rw [ju1_eq, ju1_eq]
      · rw [ju1_ne _ _ h6, ju1_ne _ _ h6]
        by_cases h5 : k = 5
        · subst h5; rw [ju1_eq, ju1_eq]
        · rw [ju1_ne _ _ h5, ju1_ne _ _ h5, ju1_ne _ _ h6, ju1_ne _ _ h5]
    · unfold Nf
      rw [jrow_ne _ _ e, jrow_ne _ _ e2, jrow_ne _ _ e, jrow_ne _ _ e2, jrow_ne _ _ e, jrow_ne _ _ e2]
theorem Nf_jrow {J : jI} {c h : Int32} {x y : Mn} : Nf (jrow J 165 y) c h x = Nf J c h x := by
  unfold Nf
  rw [jrow_ne _ _ (show 164 ≠ 165 by omega), jrow_comm _ _ _ (show 165 ≠ 164 by omega), jrow_jrow]
theorem jN (J : jI) (y : Mn) : jrow J 165 y = Nf J (J 164 5) (J 164 6) y :=
  (Nf_of (J := jrow J 165 y) (jrow_self _ _ _) (by rw [jrow_ne _ _ (by omega)]) (by rw [jrow_ne _ _ (by omega)])).trans Nf_jrow
/-- all that a store keeps besides -/
def HX (o T : Nat) (I : jI) (m : Mn) : Prop := ∀ i, i < 20 → I (o + 5) ((T + 20 - i) % 20) = m (704 + 4 * i) ∧ I (o + 6) ((T + 20 - i) % 20) = m (705 + 4 * i) ∧ I (o + 7) ((T + 20 - i) % 20) = m (706 + 4 * i) ∧ I (o + 8) ((T + 20 - i) % 20) = m (707 + 4 * i)
def RUN (B o : Nat) (I : jI) (m : Mn) : Prop := (∃ r, r ≤ B ∧ I o 8 = nI r ∧ m 694 = nI r) ∧ (m 694 = 0 ∨ I o 9 = m 695)
def REST (o T : Nat) (I : jI) (m : Mn) : Prop := (∃ f, f ≤ 999 ∧ I o 3 = nI f ∧ m 692 = nI f) ∧ (I o 5 = m 690 ∧ (m 690 = 0 ∨ m 690 = 1)) ∧ (∃ a, a ≤ 8 ∧ I o 6 = nI a ∧ m 691 = nI a) ∧ I o 10 = m 696 ∧ I o 12 = m 698 ∧ (∃ d, d < 64 ∧ I (o + 3) 1 = nI d ∧ (m 701 = nI d ∨ (d = 0 ∧ m 701 = -1))) ∧ (∀ p, p < 64 → I (o + 9) p = m (64 + p)) ∧ m 702 = nI (min T 20) ∧ HX o T I m
def ST (B o cnt mode T : Nat) (S : Nat → Nat) (I : jI) (m : Mn) : Prop :=
  (cnt ≤ 4 ∧ mode ≤ 2 ∧ T ≤ B ∧ 1 ≤ B) ∧ STH o cnt mode T I m ∧ (∀ j, j < cnt → LR B (o + 10 + 9 * j) I m j (S j)) ∧ SD B o I m ∧ (mode = 2 → EXF m cnt 0) ∧ RUN B o I m ∧ REST o T I m
def tailM (p0 v8 v19 v20 : Int32) (I21 : jI) : Option (Int32 × jI) :=

if jin (689 : Int32) 784 then (
jlet (fun (I24 : jI) =>
jlet ((v8 - (1 : Int32))) (fun (y26 : Int32) =>
jlet (fun (I27 : jI) =>
if jin (698 : Int32) 784 then (
if jin (698 : Int32) 784 then jlet (jup I27 (rfC 164 0) ((698 : Int32)).toNatClampNeg ((I27 (rfC 164 0) ((698 : Int32)).toNatClampNeg) + (I27 164 5))) (fun (I31 : jI) =>
some (v19, I31)) else none) else none) (fun (k28 : jI → Option (Int32 × jI)) =>
jfx (X7_looks_F1 164 p0 v19 k28) (fun _ _ => none) 1000 y26 I24))) (fun (k25 : jI → Option (Int32 × jI)) =>
if (I21 (rfC 164 0) ((689 : Int32)).toNatClampNeg) = (2 : Int32) then (
if v8 ≤ 0 then (
k25 I21)
else (
(X7_places 10 164 (0 : Int32) p0 v19 v20 I21).bind (fun (I42 : jI) =>
k25 I42)))
else (
k25 I21))) else none
