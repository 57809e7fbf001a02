/-! THE RELATION of the class and the model -/
def SHF (cnt : Nat) (I : jI) (L : jL) (s : Nat) : Prop :=
  (I (148 + 2 * s) 0 = -1 ∧ I (148 + 2 * s) 1 = -1 ∧ I (148 + 2 * s) 2 = 0 ∧ I 170 s = -1) ∨
  (∃ l, 1 ≤ l ∧ l ≤ cnt ∧ I (148 + 2 * s) 0 = -1 ∧ I (148 + 2 * s) 1 = nI l ∧ I (148 + 2 * s) 2 = 0 ∧ I 170 s = nI (10 + l)) ∨
  (∃ k n, k ≤ 4 ∧ n ≤ 40 ∧ I (148 + 2 * s) 0 = nI k ∧ I (148 + 2 * s) 1 = -1 ∧ I (148 + 2 * s) 2 = nI n ∧ I 170 s = nI k ∧ I 171 s = nI n ∧ ∀ i, i < 40 → L (149 + 2 * s) i = L 172 (40 * s + i))
def TAP (I : jI) : Prop := ∃ n, n ≤ 250 ∧ I 140 0 = nI n ∧ I 164 8 = nI n ∧ ∀ i, i < n → ∃ b, b < 256 ∧ I 141 i = nI b ∧ I 169 i = nI b
def IMG (B : Nat) (I : jI) : Prop := (I 1 3 = 0 ∧ I 164 3 = 0) ∨ (I 1 3 = 1 ∧ I 164 3 = 1 ∧ ∃ cnt mode T S, ST B 94 cnt mode T S I (I 166))
def RFS (I : jI) : Prop := ∀ e, e < 5 → I 146 e = I 168 e
def GG (B cnt mode T : Nat) (S : Nat → Nat) (I : jI) (L : jL) : Prop := ST B 2 cnt mode T S I (I 165) ∧ (∀ s, s < 8 → SHF cnt I L s) ∧ TAP I ∧ IMG B I ∧ RFS I
/-- what counts, but for the store that is now, is the same -/
def UR (I I' : jI) : Prop := ∀ r k, ((94 ≤ r ∧ r < 142 ∧ (r = 140 → k = 0)) ∨ r = 146 ∨ (148 ≤ r ∧ r < 164) ∨ (r = 1 ∧ k = 3) ∨ (r = 164 ∧ (k = 3 ∨ k = 8)) ∨ r = 166 ∨ (168 ≤ r ∧ r ≤ 172)) → I' r k = I r k
def UN (I I' : jI) : Prop := UR I I' ∧ (∀ r k, 2 ≤ r → r < 48 → I' r k = I r k) ∧ ∀ i, i < 784 → I' 165 i = I 165 i
/-- so too, but for the shelves -/
def UQ (I I' : jI) : Prop := ∀ r k, ((94 ≤ r ∧ r < 142 ∧ (r = 140 → k = 0)) ∨ r = 146 ∨ (r = 1 ∧ k = 3) ∨ (r = 164 ∧ (k = 3 ∨ k = 8)) ∨ r = 166 ∨ r = 168 ∨ r = 169) → I' r k = I r k
theorem UR.uq {I I' : jI} (h : UR I I') : UQ I I' := fun r k hr => h r k (by omega)
theorem UR.rf {I : jI} : UR I I := fun _ _ _ => rfl
theorem UN.rf {I : jI} : UN I I := ⟨UR.rf, fun _ _ _ _ => rfl, fun _ _ => rfl⟩
theorem UR.tr {I I' I'' : jI} (h : UR I I') (h2 : UR I' I'') : UR I I'' := fun r k hr => (h2 r k hr).trans (h r k hr)
theorem UN.tr {I I' I'' : jI} (h : UN I I') (h2 : UN I' I'') : UN I I'' := ⟨h.1.tr h2.1, fun r k a b => (h2.2.1 r k a b).trans (h.2.1 r k a b), fun i hi => (h2.2.2 i hi).trans (h.2.2 i hi)⟩
theorem rT : rfC 1 4 = 140 ∧ rfC 1 5 = 145 ∧ rfC 1 6 = 146 ∧ rfC 1 7 = 147 ∧ rfC 140 2 = 141 ∧ rfC 140 3 = 142 ∧ rfC 140 4 = 143 ∧ rfC 140 5 = 144 := by decide +kernel
theorem rS : ∀ s, s < 8 → rfC 145 s = 148 + 2 * s ∧ rfC (148 + 2 * s) 3 = 149 + 2 * s := by decide +kernel
theorem rMM : rfC 164 3 = 0 ∧ rfC 164 7 = 169 ∧ rfC 164 11 = 170 ∧ rfC 164 12 = 171 ∧ rfC 164 13 = 172 ∧ rfC 164 14 = 173 ∧ rfC 164 15 = 174 ∧ rfC 164 19 = 175 := by decide +kernel
theorem OB2 : OB 2 := Or.inl rfl
theorem OB48 : OB 48 := Or.inr (Or.inl rfl)
theorem OB94 : OB 94 := Or.inr (Or.inr rfl)
theorem SHF.mono {cnt cnt' : Nat} {I : jI} {L : jL} {s : Nat} (h : SHF cnt I L s) (hc : cnt ≤ cnt') : SHF cnt' I L s := by
  rcases h with h | ⟨l, a, b, c⟩ | h
  · exact Or.inl h
  · exact Or.inr (Or.inl ⟨l, a, by omega, c⟩)
  · exact Or.inr (Or.inr h)
theorem SHF.congr {cnt : Nat} {I I' : jI} {L L' : jL} {s : Nat} (h : SHF cnt I L s) (h1 : ∀ k, k < 3 → I' (148 + 2 * s) k = I (148 + 2 * s) k) (h2 : I' 170 s = I 170 s) (h3 : I' 171 s = I 171 s) (h4 : ∀ i, i < 40 → L' (149 + 2 * s) i = L (149 + 2 * s) i ∧ L' 172 (40 * s + i) = L 172 (40 * s + i)) : SHF cnt I' L' s := by
  unfold SHF at h ⊢
  rw [h1 0 (by omega), h1 1 (by omega), h1 2 (by omega), h2, h3]
  rcases h with h | h | ⟨k, n, a1, a2, a3, a4, a5, a6, a7, a8⟩
  · exact Or.inl h
  · exact Or.inr (Or.inl h)
  · exact Or.inr (Or.inr ⟨k, n, a1, a2, a3, a4, a5, a6, a7, fun i hi => by rw [(h4 i hi).1, (h4 i hi).2]; exact a8 i hi⟩)
theorem IMG.keep {B B' : Nat} {I I' : jI} (h : IMG B I) (hB : B ≤ B') (hr : UQ I I') : IMG B' I' := by
  rcases h with ⟨a, b⟩ | ⟨a, b, cnt, mode, T, S, hS⟩
  · exact Or.inl ⟨by rw [hr 1 3 (by omega)]; exact a, by rw [hr 164 3 (by omega)]; exact b⟩
  · exact Or.inr ⟨by rw [hr 1 3 (by omega)]; exact a, by rw [hr 164 3 (by omega)]; exact b, cnt, mode, T, S, (hS.mono hB).congr (fun r h1 h2 => by funext k; exact hr r k (by omega)) (fun i _ => hr 166 i (by omega))⟩
theorem TAP.keep {I I' : jI} (h : TAP I) (hr : UQ I I') : TAP I' := by
  obtain ⟨n, a, b, c, d⟩ := h
  exact ⟨n, a, by rw [hr 140 0 (by omega)]; exact b, by rw [hr 164 8 (by omega)]; exact c, fun i hi => by rw [hr 141 i (by omega), hr 169 i (by omega)]; exact d i hi⟩
theorem RFS.keep {I I' : jI} (h : RFS I) (hr : UQ I I') : RFS I' := fun e he => by rw [hr 146 e (by omega), hr 168 e (by omega)]; exact h e he
theorem GG.now {B B' cnt mode T cnt' mode' T' : Nat} {S S' : Nat → Nat} {I I' : jI} {L : jL} (h : GG B cnt mode T S I L) (h2 : ST B' 2 cnt' mode' T' S' I' (I' 165)) (hB : B ≤ B') (hr : UR I I') (hc : cnt ≤ cnt') : GG B' cnt' mode' T' S' I' L :=
  ⟨h2, fun s hs => ((h.2.1 s hs).mono hc).congr (fun k _ => hr _ k (by omega)) (hr 170 s (by omega)) (hr 171 s (by omega)) (fun _ _ => ⟨rfl, rfl⟩), h.2.2.1.keep hr.uq, h.2.2.2.1.keep hB hr.uq, h.2.2.2.2.keep hr.uq⟩
theorem GG.shelf {B B' cnt mode T cnt' mode' T' : Nat} {S S' : Nat → Nat} {I I' : jI} {L L' : jL} (h : GG B cnt mode T S I L) (h2 : ST B' 2 cnt' mode' T' S' I' (I' 165)) (hB : B ≤ B') (hr : UQ I I') (hs : ∀ s, s < 8 → SHF cnt' I' L' s) : GG B' cnt' mode' T' S' I' L' :=
  ⟨h2, hs, h.2.2.1.keep hr, h.2.2.2.1.keep hB hr, h.2.2.2.2.keep hr⟩
theorem GG.mono {B B' cnt mode T : Nat} {S : Nat → Nat} {I : jI} {L : jL} (h : GG B cnt mode T S I L) (hB : B ≤ B') : GG B' cnt mode T S I L := h.now (h.1.mono hB) hB UR.rf (Nat.le_refl _)
theorem GG.un {B cnt mode T : Nat} {S : Nat → Nat} {I I' : jI} {L : jL} (h : GG B cnt mode T S I L) (hr : UN I I') : GG B cnt mode T S I' L :=
  h.now (h.1.congr (fun r a b => by funext k; exact hr.2.1 r k a b) hr.2.2) (Nat.le_refl _) hr.1 (Nat.le_refl _)
/-- a call: the class, then the model, answer alike, and the relation holds behind them -/
def Two (B : Nat) (L : jL) {α : Type} (c m : jI → Option (α × jI)) (I : jI) : Prop := ∃ y I1 I2, c I = some (y, I1) ∧ m I1 = some (y, I2) ∧ ∃ cnt mode T S, GG (B + 32768) cnt mode T S I2 L
theorem Two.same {B cnt mode T : Nat} {S : Nat → Nat} {L : jL} {α : Type} {c m : jI → Option (α × jI)} {I : jI} (h : GG B cnt mode T S I L) (y : α) (h1 : c I = some (y, I)) (h2 : m I = some (y, I)) : Two B L c m I := ⟨y, I, I, h1, h2, cnt, mode, T, S, h.mono (by omega)⟩
theorem rf_both {B cnt mode T : Nat} {S : Nat → Nat} {L : jL} {I : jI} (h : GG B cnt mode T S I L) (e : Nat) (he : e < 5) (x : Int32) (hx : (-52 : Int32) - x = nI e) : ∃ I1 I2, X6_refuse 1 x I = some (x, I1) ∧ X7_refuses 164 x I1 = some (x, I2) ∧ GG B cnt mode T S I2 L := by
  refine ⟨_, _, refuse_c e he x hx I, refuse_m e he x hx _, ?_⟩
  obtain ⟨-, -, r6, -⟩ := rT
  rw [r6]
  have key : ∀ r, r ≠ 146 → r ≠ 168 → jup (jup I 146 e (I 146 e + 1)) 168 e (jup I 146 e (I 146 e + 1) 168 e + 1) r = I r := fun r h1 h2 => by rw [jup_ne _ _ h2, jup_ne _ _ h1]
  refine ⟨h.1.congr (fun r a b => key r (by omega) (by omega)) (fun i _ => by rw [key 165 (by omega) (by omega)]), fun s hs => (h.2.1 s hs).congr (fun k _ => by rw [key _ (by omega) (by omega)]) (by rw [key _ (by omega) (by omega)]) (by rw [key _ (by omega) (by omega)]) (fun _ _ => ⟨rfl, rfl⟩), ?_, ?_, ?_⟩
  · obtain ⟨n, a, b, c, d⟩ := h.2.2.1
    exact ⟨n, a, by rw [key _ (by omega) (by omega)]; exact b, by rw [key _ (by omega) (by omega)]; exact c, fun i hi => by rw [key _ (by omega) (by omega), key _ (by omega) (by omega)]; exact d i hi⟩
  · rcases h.2.2.2.1 with ⟨a, b⟩ | ⟨a, b, cnt, mode, T, S, hS⟩
    · exact Or.inl ⟨by rw [key _ (by omega) (by omega)]; exact a, by rw [key _ (by omega) (by omega)]; exact b⟩
    · exact Or.inr ⟨by rw [key _ (by omega) (by omega)]; exact a, by rw [key _ (by omega) (by omega)]; exact b, cnt, mode, T, S, hS.congr (fun r h1 h2 => key r (by omega) (by omega)) (fun i _ => by rw [key _ (by omega) (by omega)])⟩
  · intro j hj
    rw [jup_ne _ _ (show 146 ≠ 168 by omega), jup_q, jup_q, jup_ne _ _ (show 168 ≠ 146 by omega)]
    by_cases ej : j = e
    · subst ej; rw [ju1_eq, ju1_eq, h.2.2.2.2 j hj]
    · rw [ju1_ne _ _ ej, ju1_ne _ _ ej]; exact h.2.2.2.2 j hj
theorem Two.ref {B cnt mode T : Nat} {S : Nat → Nat} {L : jL} {c m : jI → Option (Int32 × jI)} {I : jI} (h : GG B cnt mode T S I L) (e : Nat) (he : e < 5) (x : Int32) (hx : (-52 : Int32) - x = nI e) (h1 : c I = X6_refuse 1 x I) (h2 : ∀ J : jI, (∀ r, r ≠ 146 → J r = I r) → m J = X7_refuses 164 x J) : Two B L c m I := by
  obtain ⟨I1, I2, a, b, g⟩ := rf_both h e he x hx
  have hI1 : ∀ r, r ≠ 146 → I1 r = I r := fun r hr => by
    rw [refuse_c e he x hx I] at a
    have := (Prod.mk.inj (Option.some.inj a)).2
    rw [← this, rT.2.2.1, jup_ne _ _ hr]
  exact ⟨x, I1, I2, h1.trans a, (h2 I1 hI1).trans b, cnt, mode, T, S, g.mono (by omega)⟩
theorem jb2_id {α β : Type} (x : Option (α × β)) : jb2 x (fun a b => some (a, b)) = x := by cases x <;> rfl
/-! bounds -/
theorem wi_e (x a b : Int32) : X6_isWithin x a b = if a ≤ x ∧ x ≤ b then some 1 else some 0 := by
  unfold X6_isWithin
  by_cases h1 : x < a
  · rw [if_pos h1, if_neg (fun h => by have := h.1; rw [Int32.le_iff_toInt_le] at this; rw [Int32.lt_iff_toInt_lt] at h1; omega)]
  · rw [if_neg h1]
    by_cases h2 : b < x
    · rw [if_pos h2, if_neg (fun h => by have := h.2; rw [Int32.le_iff_toInt_le] at this; rw [Int32.lt_iff_toInt_lt] at h2; omega)]
    · rw [if_neg h2, if_pos ⟨by rw [Int32.le_iff_toInt_le]; rw [Int32.lt_iff_toInt_lt] at h1; omega, by rw [Int32.le_iff_toInt_le]; rw [Int32.lt_iff_toInt_lt] at h2; omega⟩]
theorem nat_of (x : Int32) (h : 0 ≤ x.toInt) : ∃ n, n < 2147483648 ∧ x = nI n ∧ x.toInt = n := by
  have h2 : x.toInt < 2147483648 := by have := Int32.toInt_lt x; omega
  refine ⟨x.toInt.toNat, by omega, ?_, by omega⟩
  apply Int32.toInt_inj.mp
  rw [nI_toInt (by omega)]
  omega
/-- a number within two bounds, or not -/
theorem wi_c (x A C : Int32) (a : Nat) (c : Int) (hA : A.toInt = a) (hC : C.toInt = c) : X6_isWithin x A C = some 0 ∨ (X6_isWithin x A C = some 1 ∧ ∃ n, a ≤ n ∧ (n : Int) ≤ c ∧ n < 2147483648 ∧ x = nI n) := by
  rw [wi_e]
  by_cases h : A ≤ x ∧ x ≤ C
  · rw [if_pos h]
    have h1 := Int32.le_iff_toInt_le.mp h.1
    have h2 := Int32.le_iff_toInt_le.mp h.2
    obtain ⟨n, b1, b2, b3⟩ := nat_of x (by omega)
    exact Or.inr ⟨rfl, n, by omega, by omega, b1, b2⟩
  · rw [if_neg h]; exact Or.inl rfl
theorem wi_y {n : Nat} (x A C : Int32) (hx : x = nI n) (hn : n < 2147483648) (h1 : A.toInt ≤ n) (h2 : (n : Int) ≤ C.toInt) : X6_isWithin x A C = some 1 := by
  rw [wi_e, if_pos ⟨by rw [Int32.le_iff_toInt_le, hx, nI_toInt hn]; omega, by rw [Int32.le_iff_toInt_le, hx, nI_toInt hn]; omega⟩]
theorem page_c (x : Int32) : (X6_isPage x = some 0 ∧ X7_isPage x.toInt64 = some 0) ∨ (∃ p, p < 64 ∧ x = nI p ∧ X6_isPage (nI p) = some 1 ∧ X7_isPage (nI p).toInt64 = some 1) := by
  have e1 : X6_isPage x = X6_isWithin x 0 63 := by
    unfold X6_isPage X6_isWithin
    by_cases h : x < 0
    · rw [if_pos h, if_pos h]
    · rw [if_neg h, if_neg h]
      have : ((64 : Int32) ≤ x) = (63 < x) := by
        apply propext
        rw [Int32.le_iff_toInt_le, Int32.lt_iff_toInt_lt, show (64 : Int32).toInt = 64 from rfl, show (63 : Int32).toInt = 63 from rfl]
        omega
      simp only [this]
  have e2 : ∀ y : Int32, X7_isPage y.toInt64 = (X6_isWithin y 0 63).bind (fun (y1 : Int32) => if y1 = 0 ∨ y1 = 1 then some y1 else none) := fun y => by
    unfold X7_isPage
    rw [within_e y 0 63 0 63 rfl rfl]
  rcases wi_c x 0 63 0 63 rfl rfl with h | ⟨h, n, a, b, -, d⟩
  · left
    rw [e1, e2, h]
    exact ⟨rfl, rfl⟩
  · right
    subst d
    refine ⟨n, by omega, rfl, isPage_e (by omega), ?_⟩
    rw [e2, h]
    rfl
theorem rlv {cnt : Nat} (hc : cnt ≤ 4) (x : Int32) (J : jI) (hJ : J 165 688 = nI cnt) : X7_isLevel 164 x J = X6_isWithin x 1 (nI cnt) := by
  unfold X7_isLevel
  rw [if_pos (by decide), rM0, show ((688 : Int32)).toNatClampNeg = 688 from rfl, hJ, within_e x 1 (nI cnt) 1 (nI cnt).toInt64 rfl rfl, wi_e]
  split <;> rfl
