/-! THE TAPE: numbers and parts on both sides -/
theorem jup_jup {α : Type} (f : Nat → Nat → α) (r k : Nat) (v w : α) : jup (jup f r k v) r k w = jup f r k w := by
  rw [jup_def (jup f r k v), jup_q, jup_def, jrow_jrow, jup_def]
  congr 1
  funext j
  by_cases e : j = k
  · subst e; rw [ju1_eq, ju1_eq]
  · rw [ju1_ne _ _ e, ju1_ne _ _ e, ju1_ne _ _ e]
def nrd (b : Nat → Nat) (n : Nat) : Nat → Nat → Nat → Nat × Nat
  | 0, pl, v => (pl, v)
  | f + 1, pl, v => if pl < n ∧ 48 ≤ b pl ∧ b pl ≤ 57 then nrd b n f (pl + 1) (10 * v + b pl - 48) else (pl, v)
theorem nrd_s {b : Nat → Nat} {n f pl v : Nat} : nrd b n (f + 1) pl v = if pl < n ∧ 48 ≤ b pl ∧ b pl ≤ 57 then nrd b n f (pl + 1) (10 * v + b pl - 48) else (pl, v) := rfl
theorem nrd_le {b : Nat → Nat} {n : Nat} : ∀ {f pl v}, pl ≤ n → pl ≤ (nrd b n f pl v).1 ∧ (nrd b n f pl v).1 ≤ n ∧ (nrd b n f pl v).1 ≤ pl + f ∧ (nrd b n f pl v).2 + 1 ≤ 10 ^ f * (v + 1)
  | 0, pl, v, h => ⟨Nat.le_refl _, h, Nat.le_refl _, by simp [nrd]⟩
  | f + 1, pl, v, h => by
    rw [nrd_s]
    by_cases c : pl < n ∧ 48 ≤ b pl ∧ b pl ≤ 57
    · rw [if_pos c]
      obtain ⟨a1, a2, a3, a4⟩ := nrd_le (b := b) (n := n) (f := f) (pl := pl + 1) (v := 10 * v + b pl - 48) (by omega)
      refine ⟨by omega, a2, by omega, Nat.le_trans a4 ?_⟩
      rw [Nat.pow_succ, Nat.mul_assoc]
      exact Nat.mul_le_mul_left _ (by omega)
    · rw [if_neg c]
      refine ⟨Nat.le_refl _, h, by omega, ?_⟩
      show v + 1 ≤ 10 ^ (f + 1) * (v + 1)
      exact Nat.le_mul_of_pos_left _ (Nat.pow_pos (by omega))
section TP
variable {n cnt : Nat} {b : Nat → Nat}
def TC (I : jI) (n pl : Nat) (b : Nat → Nat) : Prop := I 140 0 = nI n ∧ I 140 6 = nI pl ∧ ∀ i, i < n → b i < 256 ∧ I 141 i = nI (b i)
def TM (J : jI) (n pl : Nat) (b : Nat → Nat) : Prop := J 164 8 = nI n ∧ J 164 9 = nI pl ∧ ∀ i, i < n → J 169 i = nI (b i)
def byt (b : Nat → Nat) (n pl : Nat) : Int32 := if pl < n then nI (b pl) else -1
theorem byte_C {I : jI} {pl : Nat} (h : TC I n pl b) (hn : n ≤ 250) (hpl : pl ≤ n) : X5_byteHere 140 I = some (byt b n pl) := by
  obtain ⟨h1, h2, h3⟩ := h
  unfold X5_byteHere byt
  rw [h1, h2]
  by_cases c : pl < n
  · rw [if_neg (nI_ge c (by omega)), wi_y (nI pl) 0 ((250 : Int32) - (1 : Int32)) rfl (by omega) (by rw [show (0 : Int32).toInt = 0 from rfl]; omega) (by rw [show ((250 : Int32) - (1 : Int32)).toInt = 249 from by decide]; omega), ob_some, if_neg (by decide), if_pos (jin_N (by omega) (by omega)), rT.2.2.2.2.1, cl_N (by omega), (h3 pl c).2, if_pos c]
  · rw [if_pos (nI_le (by omega) (by omega)), if_neg c]
theorem peek_M {J : jI} {pl : Nat} (h8 : J 164 8 = nI n) (h9 : J 164 9 = nI pl) (hb : ∀ i, i < n → J 169 i = nI (b i)) (hn : n ≤ 250) (hpl : pl < 2147483648) : X7_peek 164 J = some (byt b n pl) := by
  unfold X7_peek byt
  rw [h8, h9]
  by_cases c : pl < n
  · rw [if_neg (nI_ge c (by omega)), if_pos (jin_N (by omega) (by omega)), rMM.2.1, cl_N (by omega), hb pl c, if_pos c]
  · rw [if_pos (nI_le (by omega) (by omega)), if_neg c]
theorem dig_e {pl : Nat} (hb : ∀ i, i < n → b i < 256) : (X6_isWithin (byt b n pl) 48 57 = some 1 ∧ pl < n ∧ 48 ≤ b pl ∧ b pl ≤ 57) ∨ (X6_isWithin (byt b n pl) 48 57 = some 0 ∧ ¬ (pl < n ∧ 48 ≤ b pl ∧ b pl ≤ 57)) := by
  unfold byt
  by_cases c : pl < n
  · rw [if_pos c]
    have := hb pl c
    by_cases d : 48 ≤ b pl ∧ b pl ≤ 57
    · exact Or.inl ⟨wi_y _ _ _ rfl (by omega) (by rw [show (48 : Int32).toInt = 48 from rfl]; omega) (by rw [show (57 : Int32).toInt = 57 from rfl]; omega), c, d⟩
    · refine Or.inr ⟨?_, fun z => d z.2⟩
      rw [wi_e, if_neg (fun z => d ⟨by have := Int32.le_iff_toInt_le.mp z.1; rw [nI_toInt (by omega), show (48 : Int32).toInt = 48 from rfl] at this; omega, by have := Int32.le_iff_toInt_le.mp z.2; rw [nI_toInt (by omega), show (57 : Int32).toInt = 57 from rfl] at this; omega⟩)]
  · rw [if_neg c]
    exact Or.inr ⟨rfl, fun z => c z.1⟩
/-- same but for places 6 and 7 of the class's tape -/
def SC (I I' : jI) : Prop := ∀ r k, (r ≠ 140 ∨ (k ≠ 6 ∧ k ≠ 7)) → I' r k = I r k
theorem num_CF (hn : n ≤ 250) {p : Nat} (k4 : jI → Option (Int32 × jI)) : ∀ f nn pl v (I : jI), TC I n pl b → I 140 7 = nI v → p ≤ pl → pl ≤ n → pl + f = p + 3 → f < nn →
    ∃ I', jfx (X5_readNumber_F1 140 (nI p) k4) (fun _ => none) nn I = k4 I' ∧ SC I I' ∧ I' 140 6 = nI (nrd b n f pl v).1 ∧ I' 140 7 = nI (nrd b n f pl v).2 := by
  intro f
  induction f with
  | zero =>
    intro nn pl v I hT h7 h1 h2 h3 h4
    obtain ⟨nn, rfl⟩ : ∃ q, nn = q + 1 := ⟨nn - 1, by omega⟩
    refine ⟨I, ?_, fun _ _ _ => rfl, hT.2.1, h7⟩
    rw [jfx_s, X5_readNumber_F1, hT.2.1, subN h1, if_pos (lle (3 : Int32) 3 rfl (by omega) (by omega))]
  | succ f ih =>
    intro nn pl v I hT h7 h1 h2 h3 h4
    obtain ⟨nn, rfl⟩ : ∃ q, nn = q + 1 := ⟨nn - 1, by omega⟩
    have hbb : ∀ i, i < n → b i < 256 := fun i hi => (hT.2.2 i hi).1
    have hB := byte_C hT hn h2
    rcases dig_e (pl := pl) hbb with ⟨d1, d2, d3, d4⟩ | ⟨d1, d2⟩
    · have hby : byt b n pl = nI (b pl) := if_pos d2
      obtain ⟨I1, hI1⟩ : ∃ I1, I1 = jup (jup I 140 7 (nI (10 * v + b pl - 48))) 140 6 (nI (pl + 1)) := ⟨_, rfl⟩
      have hS : SC I I1 := fun r k hr => by rw [hI1, jup_nj _ _ (by omega), jup_nj _ _ (by omega)]
      obtain ⟨I', e1, e2, e3, e4⟩ := ih nn (pl + 1) (10 * v + b pl - 48) I1 ⟨by rw [hS 140 0 (by omega)]; exact hT.1, by rw [hI1, jup_q, ju1_eq], fun i hi => by rw [hS 141 i (by omega)]; exact hT.2.2 i hi⟩ (by rw [hI1]; simp (disch := omega) only [jup_q, ju1_eq, ju1_ne]) (by omega) (by omega) (by omega) (by omega)
      refine ⟨I', ?_, fun r k hr => by rw [e2 r k hr, hS r k hr], ?_, ?_⟩
      · rw [jfx_s, X5_readNumber_F1, hT.2.1, subN h1, if_neg (lge (3 : Int32) 3 rfl (by omega) (by omega)), hB, ob_some, d1, ob_some, if_neg (by decide), ob_some, jlet_d, jlet_d, h7, hby]
        rw [show (nI v * (10 : Int32) + nI (b pl)) - (48 : Int32) = nI (10 * v + b pl - 48) by
          rw [show (10 : Int32) = nI 10 from rfl, pk_mul, nI_add, show (48 : Int32) = nI 48 from rfl, subN (by omega), Nat.mul_comm]]
        rw [jup_nj _ _ (show 140 ≠ 140 ∨ 6 ≠ 7 by omega), hT.2.1, nI_1, ← hI1]
        exact e1
      · rw [nrd_s, if_pos ⟨d2, d3, d4⟩]; exact e3
      · rw [nrd_s, if_pos ⟨d2, d3, d4⟩]; exact e4
    · refine ⟨I, ?_, fun _ _ _ => rfl, ?_, ?_⟩
      · rw [jfx_s, X5_readNumber_F1, hT.2.1, subN h1, if_neg (lge (3 : Int32) 3 rfl (by omega) (by omega)), hB, ob_some, d1, ob_some, if_pos rfl]
      · rw [nrd_s, if_neg d2]; exact hT.2.1
      · rw [nrd_s, if_neg d2]; exact h7
def numOK (b : Nat → Nat) (n p lo hi : Nat) : Prop := ¬ (nrd b n 3 p 0).1 = p ∧ lo ≤ (nrd b n 3 p 0).2 ∧ (nrd b n 3 p 0).2 ≤ hi
theorem nrd3 {p : Nat} (hp : p ≤ n) : p ≤ (nrd b n 3 p 0).1 ∧ (nrd b n 3 p 0).1 ≤ n ∧ (nrd b n 3 p 0).2 ≤ 999 := by
  obtain ⟨a, c, -, d⟩ := nrd_le (b := b) (n := n) (f := 3) (pl := p) (v := 0) hp
  rw [show 10 ^ 3 * (0 + 1) = 1000 from rfl] at d
  exact ⟨a, c, by omega⟩
theorem rng_e {lo hi : Nat} (hlo : lo < 2147483648) (hhi : hi < 2147483648) {p : Nat} (hp : p ≤ n) : (X6_isWithin (nI (nrd b n 3 p 0).2) (nI lo) (nI hi) = some 1 ∧ lo ≤ (nrd b n 3 p 0).2 ∧ (nrd b n 3 p 0).2 ≤ hi) ∨ (X6_isWithin (nI (nrd b n 3 p 0).2) (nI lo) (nI hi) = some 0 ∧ ¬ (lo ≤ (nrd b n 3 p 0).2 ∧ (nrd b n 3 p 0).2 ≤ hi)) := by
  obtain ⟨-, -, h⟩ := nrd3 (b := b) hp
  rw [wi_e]
  by_cases c : lo ≤ (nrd b n 3 p 0).2 ∧ (nrd b n 3 p 0).2 ≤ hi
  · rw [if_pos ⟨nI_le c.1 (by omega), nI_le c.2 hhi⟩]; exact Or.inl ⟨rfl, c⟩
  · rw [if_neg (fun z => c ⟨(nI_leI hlo (by omega)).mp z.1, (nI_leI (by omega) hhi).mp z.2⟩)]; exact Or.inr ⟨rfl, c⟩
theorem num_C (hn : n ≤ 250) {p lo hi : Nat} (hp : p ≤ n) (hlo : lo < 2147483648) (hhi : hi < 2147483648) {I : jI} (hT : TC I n p b) : ∃ I', SC I I' ∧ ((numOK b n p lo hi ∧ X5_readNumber 140 (nI lo) (nI hi) I = some (1, I') ∧ I' 140 6 = nI (nrd b n 3 p 0).1 ∧ I' 140 7 = nI (nrd b n 3 p 0).2) ∨ (¬ numOK b n p lo hi ∧ X5_readNumber 140 (nI lo) (nI hi) I = some (0, I') ∧ I' 140 6 = nI p)) := by
  obtain ⟨c1, c2, c3⟩ := nrd3 (b := b) hp
  obtain ⟨I0, hI0⟩ : ∃ I0, I0 = jup I 140 7 0 := ⟨_, rfl⟩
  have hS0 : SC I I0 := fun r k hr => by rw [hI0, jup_nj _ _ (by omega)]
  have h60 : I0 140 6 = nI p := by rw [hI0, jup_nj _ _ (by omega)]; exact hT.2.1
  obtain ⟨I1, e1, e2, e3, e4⟩ := num_CF (b := b) hn (fun (I3 : jI) =>
if (I3 140 6) = nI p then (
some ((0 : Int32), I3))
else (
(X6_isWithin (I3 140 7) (nI lo) (nI hi)).bind (fun (y6 : Int32) =>
if y6 = 0 then (
jlet (jup I3 140 6 (nI p)) (fun (I9 : jI) =>
some ((0 : Int32), I9)))
else (
some ((1 : Int32), I3))))) 3 1000 p 0 I0 ⟨by rw [hS0 140 0 (by omega)]; exact hT.1, h60, fun i hi => by rw [hS0 141 i (by omega)]; exact hT.2.2 i hi⟩ (by rw [hI0, jup_q, ju1_eq]; rfl) (Nat.le_refl _) hp (by omega) (by omega)
  have hS1 : SC I I1 := fun r k hr => by rw [e2 r k hr, hS0 r k hr]
  have cC : X5_readNumber 140 (nI lo) (nI hi) I = if (nrd b n 3 p 0).1 = p then some (0, I1) else (X6_isWithin (nI (nrd b n 3 p 0).2) (nI lo) (nI hi)).bind (fun (y6 : Int32) => if y6 = 0 then some (0, jup I1 140 6 (nI p)) else some (1, I1)) := by
    unfold X5_readNumber
    rw [jlet_d, jlet_d, jlet_d, ← hI0, hT.2.1]
    refine e1.trans ?_
    rw [e3, e4, ifc (show (nI (nrd b n 3 p 0).1 = nI p) ↔ ((nrd b n 3 p 0).1 = p) from nI_eq (by omega) (by omega))]
    rfl
  by_cases a : (nrd b n 3 p 0).1 = p
  · refine ⟨I1, hS1, Or.inr ⟨fun z => z.1 a, by rw [cC, if_pos a], by rw [e3, a]⟩⟩
  · rcases rng_e (b := b) hlo hhi hp with ⟨r1, r2⟩ | ⟨r1, r2⟩
    · exact ⟨I1, hS1, Or.inl ⟨⟨a, r2⟩, by rw [cC, if_neg a, r1, ob_some, if_neg (by decide)], e3, e4⟩⟩
    · refine ⟨jup I1 140 6 (nI p), fun r k hr => by rw [jup_nj _ _ (by omega), hS1 r k hr], Or.inr ⟨fun z => r2 z.2, by rw [cC, if_neg a, r1, ob_some, if_pos rfl], by rw [jup_q, ju1_eq]⟩⟩
theorem num_MF (hn : n ≤ 250) {p : Nat} (k4 : Int32 → jI → Option (Int32 × jI)) : ∀ f nn pl v (J : jI), TM J n pl b → (∀ i, i < n → b i < 256) → J 164 10 = -1 → p ≤ pl → pl ≤ n → pl + f = p + 3 → f < nn →
    jfx (X7_number_F1 164 (nI p) k4) (fun _ _ => none) nn (nI v) J = k4 (nI (nrd b n f pl v).2) (jup J 164 9 (nI (nrd b n f pl v).1)) := by
  intro f
  induction f with
  | zero =>
    intro nn pl v J hT hbb h10 h1 h2 h3 h4
    obtain ⟨nn, rfl⟩ : ∃ q, nn = q + 1 := ⟨nn - 1, by omega⟩
    rw [jfx_s, X7_number_F1, h10, if_neg (by decide), hT.2.1, subN h1, if_pos (lle (3 : Int32) 3 rfl (by omega) (by omega))]
    show k4 (nI v) J = k4 (nI v) (jup J 164 9 (nI pl))
    rw [jup_id _ _ _ hT.2.1]
  | succ f ih =>
    intro nn pl v J hT hbb h10 h1 h2 h3 h4
    obtain ⟨nn, rfl⟩ : ∃ q, nn = q + 1 := ⟨nn - 1, by omega⟩
    have hB := peek_M hT.1 hT.2.1 hT.2.2 hn (show pl < 2147483648 by omega)
    rw [jfx_s, X7_number_F1, h10, if_neg (by decide), hT.2.1, subN h1, if_neg (lge (3 : Int32) 3 rfl (by omega) (by omega)), hB, ob_some, within_e (byt b n pl) 48 57 48 57 rfl rfl]
    rcases dig_e (pl := pl) hbb with ⟨d1, d2, d3, d4⟩ | ⟨d1, d2⟩
    · have hby : byt b n pl = nI (b pl) := if_pos d2
      rw [d1, ob_some, if_neg (by decide), ob_some, jlet_d, jlet_d, hby, nI_1]
      rw [show ((10 : Int32) * nI v + nI (b pl)) - (48 : Int32) = nI (10 * v + b pl - 48) by
        rw [show (10 : Int32) = nI 10 from rfl, pk_mul, nI_add, show (48 : Int32) = nI 48 from rfl, subN (by omega)]]
      rw [ih nn (pl + 1) (10 * v + b pl - 48) (jup J 164 9 (nI (pl + 1))) ⟨by rw [jup_nj _ _ (by omega)]; exact hT.1, by rw [jup_q, ju1_eq], fun i hi => by rw [jup_nj _ _ (by omega)]; exact hT.2.2 i hi⟩ hbb (by rw [jup_nj _ _ (by omega)]; exact h10) (by omega) (by omega) (by omega) (by omega), jup_jup, nrd_s, if_pos ⟨d2, d3, d4⟩]
    · rw [d1, ob_some, if_pos rfl, nrd_s, if_neg d2]
      show k4 (nI v) J = k4 (nI v) (jup J 164 9 (nI pl))
      rw [jup_id _ _ _ hT.2.1]
theorem num_M (hn : n ≤ 250) {p lo hi : Nat} (hp : p ≤ n) (hlo : lo < 2147483648) (hhi : hi < 2147483648) {J : jI} (hT : TM J n p b) (hbb : ∀ i, i < n → b i < 256) (h10 : J 164 10 = -1) : (numOK b n p lo hi → X7_number 164 (nI lo) (nI hi) J = some (nI (nrd b n 3 p 0).2, jup J 164 9 (nI (nrd b n 3 p 0).1))) ∧ (¬ numOK b n p lo hi → X7_number 164 (nI lo) (nI hi) J = some (nI (nrd b n 3 p 0).2, jup (jup J 164 9 (nI (nrd b n 3 p 0).1)) 164 10 (nI p))) := by
  obtain ⟨c1, c2, c3⟩ := nrd3 (b := b) hp
  have wr : X7_wrong 164 (nI p) (jup J 164 9 (nI (nrd b n 3 p 0).1)) = some (jup (jup J 164 9 (nI (nrd b n 3 p 0).1)) 164 10 (nI p)) := by
    unfold X7_wrong
    rw [jup_nj _ _ (by omega), h10, if_neg (by decide), jlet_d]
  have cM : X7_number 164 (nI lo) (nI hi) J = if (nrd b n 3 p 0).1 = p then some (nI (nrd b n 3 p 0).2, jup (jup J 164 9 (nI (nrd b n 3 p 0).1)) 164 10 (nI p)) else (X6_isWithin (nI (nrd b n 3 p 0).2) (nI lo) (nI hi)).bind (fun (y8 : Int32) => if y8 = 0 then some (nI (nrd b n 3 p 0).2, jup (jup J 164 9 (nI (nrd b n 3 p 0).1)) 164 10 (nI p)) else some (nI (nrd b n 3 p 0).2, jup J 164 9 (nI (nrd b n 3 p 0).1))) := by
    unfold X7_number
    rw [jlet_d, jlet_d, hT.2.1]
    refine (num_MF (b := b) hn _ 3 1000 p 0 J hT hbb h10 (Nat.le_refl _) hp (by omega) (by omega)).trans ?_
    rw [jup_q, ju1_eq, wr, ob_some, within_e _ (nI lo) (nI hi) _ _ rfl rfl, ifc (show (nI (nrd b n 3 p 0).1 = nI p) ↔ ((nrd b n 3 p 0).1 = p) from nI_eq (by omega) (by omega))]
  rw [cM]
  by_cases a : (nrd b n 3 p 0).1 = p
  · exact ⟨fun z => absurd a z.1, fun _ => by rw [if_pos a]⟩
  · rcases rng_e (b := b) hlo hhi hp with ⟨r1, r2⟩ | ⟨r1, r2⟩
    · exact ⟨fun _ => by rw [if_neg a, r1, ob_some, if_neg (by decide)], fun z => absurd ⟨a, r2⟩ z⟩
    · exact ⟨fun z => absurd z.2 r2, fun _ => by rw [if_neg a, r1, ob_some, if_pos rfl]⟩
/-- behind a fault nothing is noted more -/
theorem num_MX {J : jI} {lo hi : Int32} {q : Nat} (hq : q < 1000) (h10 : J 164 10 = nI q) : ∃ v, X7_number 164 lo hi J = some (v, J) := by
  refine ⟨0, ?_⟩
  unfold X7_number
  rw [jlet_d, jlet_d, show (1000 : Nat) = 999 + 1 from rfl, jfx_s, X7_number_F1, h10, if_pos (nI_pos' (by omega)), if_pos rfl]
  unfold X7_wrong
  rw [h10, if_pos (nI_pos' (by omega)), jlet_d, jup_id _ _ _ h10, ob_some]
end TP
