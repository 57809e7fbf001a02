/-! TRAFFIC: on both sides -/
def k8M : Int32 → jI → Option (Int32 × jI) := fun (v6 : Int32) (I7 : jI) =>
if (I7 164 8) ≤ (I7 164 9) then (
some (v6, I7))
else (
(X7_wrong 164 (I7 164 9) I7).bind (fun (I10 : jI) =>
some (v6, I10)))
def M0 (p0 : Int32) (nn : Nat) (acc : Int32) (k : Nat) (J : jI) : Option (Int32 × jI) := jb2 (X7_part 164 p0 J) (fun (y22 : Int32) (I23 : jI) => jlet ((acc + y22)) (fun (y25 : Int32) => jfx (X7_parts_F1 164 p0 k8M) (fun _ _ _ => none) nn y25 (nI (k + 1)) I23))
section TF
variable {n cnt : Nat} {b : Nat → Nat}
theorem after_M (hn : n ≤ 250) (hbb : ∀ i, i < n → b i < 256) {p0 acc : Int32} {k pe nn : Nat} {J : jI} (hT : TM J n pe b) (h10 : J 164 10 = -1) (hpe : pe ≤ n) (hk : k < 30) : jfx (X7_parts_F1 164 p0 k8M) (fun _ _ _ => none) (nn + 1) acc (nI (k + 1)) J = if k + 1 < 30 ∧ pe < n ∧ b pe = 32 then M0 p0 nn acc (k + 1) (jup J 164 9 (nI (pe + 1))) else if pe < n then some (acc, jup J 164 10 (nI pe)) else some (acc, J) := by
  have hk8 : k8M acc J = if pe < n then some (acc, jup J 164 10 (nI pe)) else some (acc, J) := by
    unfold k8M
    rw [hT.1, hT.2.1]
    by_cases c : pe < n
    · rw [if_neg (nI_ge c (by omega)), if_pos c]
      unfold X7_wrong
      rw [h10, if_neg (by decide), jlet_d, ob_some]
    · rw [if_pos (nI_le (by omega) (by omega)), if_neg c]
  rw [jfx_s, X7_parts_F1, h10, if_neg (by decide)]
  by_cases c1 : k + 1 < 30
  · rw [if_neg (lge (30 : Int32) 30 rfl c1 (by omega)), peek_M hT.1 hT.2.1 hT.2.2 hn (by omega), ob_some]
    have h32 : (byt b n pe = 32) ↔ (pe < n ∧ b pe = 32) := by
      unfold byt
      by_cases cc : pe < n
      · rw [if_pos cc, let32 (hbb pe cc)]
        exact ⟨fun z => ⟨cc, z⟩, fun z => z.2⟩
      · rw [if_neg cc]
        exact ⟨fun z => absurd z (by decide), fun z => absurd z.1 cc⟩
    by_cases c2 : pe < n ∧ b pe = 32
    · rw [if_pos (h32.mpr c2), if_pos ⟨c1, c2⟩, hT.2.1, nI_1, jlet_d, nI_1]
      rfl
    · rw [if_neg (fun z => c2 (h32.mp z)), if_neg (fun z => c2 z.2)]
      exact hk8
  · rw [if_pos (lle (30 : Int32) 30 rfl (by omega) (by omega)), if_neg (fun z => c1 z.1)]
    exact hk8
def FRK (k : Nat) (I I' : jI) : Prop := ∀ r j, (r ≠ 140 ∨ (j ≠ 6 ∧ j ≠ 7 ∧ j ≠ 1)) → ((r = 142 ∨ r = 143 ∨ r = 144) → j < k) → I' r j = I r j
def REC (n cnt : Nat) (b : Nat → Nat) (I' : jI) (k K : Nat) (PC X Y PL PE : Nat → Nat) : Prop := k < K ∧ K ≤ 30 ∧ I' 140 1 = nI K ∧ (∀ j, k ≤ j → j < K → (isLet (PC j) ∧ loN (PC j) ≤ X j ∧ X j ≤ hiN cnt (PC j) ∧ Y j ≤ 999) ∧ (I' 142 j = nI (PC j) ∧ I' 143 j = nI (X j) ∧ (PC j = 119 → I' 144 j = nI (Y j))) ∧ MOK n cnt b (PL j) (PC j) (X j) (Y j) (PE j) ∧ PE j ≤ n) ∧ (∀ j, k ≤ j → j + 1 < K → PE j < n ∧ b (PE j) = 32 ∧ PL (j + 1) = PE j + 1) ∧ PE (K - 1) = n
theorem scan (hn : n ≤ 250) (h4 : cnt ≤ 4) : ∀ d k pl nn mm (I : jI), d + k + 1 = 30 → TC I n pl b → pl ≤ n → I 140 1 = nI k → d < nn → d + 1 < mm →
    ∃ I', FRK k I I' ∧ ((∃ q, q ≤ 251 ∧ jfx (X5_findFault_F1 140 (nI cnt)) (fun _ _ => none) nn (nI (k + 1)) I = some (nI q, I') ∧ ∀ J : jI, TM J n pl b → J 164 10 = -1 → J 165 688 = nI cnt → ∃ J', M0 0 mm 0 k J = some (0, J') ∧ J' 164 10 = nI q ∧ SP J J') ∨
      (∃ K PC X Y PL PE, jfx (X5_findFault_F1 140 (nI cnt)) (fun _ _ => none) nn (nI (k + 1)) I = some (-1, I') ∧ PL k = pl ∧ REC n cnt b I' k K PC X Y PL PE ∧ ∀ J : jI, TM J n pl b → J 164 10 = -1 → J 165 688 = nI cnt → ∃ J', M0 0 mm 0 k J = some (0, J') ∧ J' 164 10 = -1 ∧ SP J J')) := by
  intro d
  induction d with
  | zero =>
    intro k pl nn mm I h1 hT hpl hk h2 h3
    obtain ⟨nn, rfl⟩ : ∃ q, nn = q + 1 := ⟨nn - 1, by omega⟩
    obtain ⟨mm, rfl⟩ : ∃ q, mm = q + 1 := ⟨mm - 1, by omega⟩
    have hbb : ∀ i, i < n → b i < 256 := fun i hi => (hT.2.2 i hi).1
    have hk30 : k < 30 := by omega
    rcases part_both hn h4 hT hk hk30 hpl with ⟨c, x, y, pe, I1, q1, q2, q3, q4, q5, q6, q7, q8, q9, q10, q11, q12, q13⟩ | ⟨q, I1, q1, q2, q3, q4, q5⟩
    · obtain ⟨I2, hI2⟩ : ∃ I2, I2 = jup I1 140 1 (nI (k + 1)) := ⟨_, rfl⟩
      have e2 : ∀ r j, (r ≠ 140 ∨ j ≠ 1) → I2 r j = I1 r j := fun r j hr => by rw [hI2, jup_nj _ _ hr]
      have F : FRK k I I2 := fun r j a c => by rw [e2 r j (by omega), q12 r j (by omega) (by omega)]
      have h0 : I2 140 0 = nI n := by rw [e2 _ _ (by omega), q12 140 0 (by omega) (by omega)]; exact hT.1
      have cC : jfx (X5_findFault_F1 140 (nI cnt)) (fun _ _ => none) (nn + 1) (nI (k + 1)) I = if pe < n then some (nI pe, I2) else some (-1, I2) := by
        rw [jfx_s, X5_findFault_F1, if_neg (lnlt2 (30 : Int32) 30 rfl (show k + 1 ≤ 30 by omega) (by omega)), q7, jb2_some, if_neg (by decide), ← hI2, jlet_d, h0, e2 140 6 (by omega), q8]
        by_cases c1 : pe < n
        · have hT2 : TC I2 n pe b := ⟨h0, by rw [e2 140 6 (by omega)]; exact q8, fun i hi => by rw [e2 141 i (by omega), q12 141 i (by omega) (by omega)]; exact hT.2.2 i hi⟩
          rw [if_pos (nI_lt c1 (by omega)), if_pos c1, byte_C hT2 hn (by omega), ob_some]
          split
          · rw [if_pos (show nI (k + 1) = 30 by rw [show k + 1 = 30 by omega]; rfl)]
          · rfl
        · rw [if_neg (nI_nlt (by omega) (by omega)), if_neg c1]
      have mM : ∀ J : jI, TM J n pl b → J 164 10 = -1 → J 165 688 = nI cnt → M0 0 (mm + 1) 0 k J = if pe < n then some (0, jup (jup J 164 9 (nI pe)) 164 10 (nI pe)) else some (0, jup J 164 9 (nI pe)) := fun J hM h10 h688 => by
        unfold M0
        rw [q13 J hM h10 h688 0, if_pos rfl, jb2_some, jlet_d, Int32.add_zero, after_M (b := b) (n := n) hn hbb ⟨by rw [jup_nj _ _ (by omega)]; exact hM.1, by rw [jup_q, ju1_eq], fun i hi => by rw [jup_nj _ _ (by omega)]; exact hM.2.2 i hi⟩ (by rw [jup_nj _ _ (by omega)]; exact h10) q6 hk30, if_neg (fun z => by omega)]
      refine ⟨I2, F, ?_⟩
      by_cases c1 : pe < n
      · left
        refine ⟨pe, by omega, by rw [cC, if_pos c1], fun J hM h10 h688 => ⟨_, by rw [mM J hM h10 h688, if_pos c1], by rw [jup_q, ju1_eq], (SP.up (Or.inl rfl) _).tr (SP.up (Or.inr rfl) _)⟩⟩
      · right
        refine ⟨k + 1, fun _ => c, fun _ => x, fun _ => y, fun _ => pl, fun _ => pe, by rw [cC, if_neg c1], rfl, ⟨by omega, by omega, by rw [hI2, jup_q, ju1_eq], fun j j1 j2 => ?_, fun j j1 j2 => by omega, show pe = n by omega⟩, fun J hM h10 h688 => ⟨_, by rw [mM J hM h10 h688, if_neg c1], by rw [jup_nj _ _ (by omega)]; exact h10, SP.up (Or.inl rfl) _⟩⟩
        have : j = k := by omega
        subst this
        exact ⟨⟨q1, q2, q3, q4⟩, ⟨by rw [e2 _ _ (by omega)]; exact q9, by rw [e2 _ _ (by omega)]; exact q10, fun z => by rw [e2 _ _ (by omega)]; exact q11 z⟩, q13, q6⟩
    · refine ⟨I1, fun r j a c => q4 r j (by omega) (by omega), Or.inl ⟨q, q1, ?_, fun J hM h10 h688 => ?_⟩⟩
      · rw [jfx_s, X5_findFault_F1, if_neg (lnlt2 (30 : Int32) 30 rfl (show k + 1 ≤ 30 by omega) (by omega)), q2, jb2_some, if_pos rfl, q3]
      · obtain ⟨J', t1, t2, t3⟩ := q5 J hM h10 h688
        refine ⟨J', ?_, t2, t3⟩
        unfold M0
        rw [t1, jb2_some, jlet_d, jfx_s, X7_parts_F1, t2, if_pos (nI_pos' (by omega))]
        unfold k8M
        split
        · rfl
        · rw [wrong_X (q := q) (by omega) t2, ob_some]; rfl
  | succ d ih =>
    intro k pl nn mm I h1 hT hpl hk h2 h3
    obtain ⟨nn, rfl⟩ : ∃ q, nn = q + 1 := ⟨nn - 1, by omega⟩
    obtain ⟨mm, rfl⟩ : ∃ q, mm = q + 1 := ⟨mm - 1, by omega⟩
    have hbb : ∀ i, i < n → b i < 256 := fun i hi => (hT.2.2 i hi).1
    have hk30 : k < 30 := by omega
    rcases part_both hn h4 hT hk hk30 hpl with ⟨c, x, y, pe, I1, q1, q2, q3, q4, q5, q6, q7, q8, q9, q10, q11, q12, q13⟩ | ⟨q, I1, q1, q2, q3, q4, q5⟩
    · obtain ⟨I2, hI2⟩ : ∃ I2, I2 = jup I1 140 1 (nI (k + 1)) := ⟨_, rfl⟩
      have e2 : ∀ r j, (r ≠ 140 ∨ j ≠ 1) → I2 r j = I1 r j := fun r j hr => by rw [hI2, jup_nj _ _ hr]
      have F : FRK k I I2 := fun r j a c => by rw [e2 r j (by omega), q12 r j (by omega) (by omega)]
      have h0 : I2 140 0 = nI n := by rw [e2 _ _ (by omega), q12 140 0 (by omega) (by omega)]; exact hT.1
      have hT2 : TC I2 n pe b := ⟨h0, by rw [e2 140 6 (by omega)]; exact q8, fun i hi => by rw [e2 141 i (by omega), q12 141 i (by omega) (by omega)]; exact hT.2.2 i hi⟩
      obtain ⟨I3, hI3⟩ : ∃ I3, I3 = jup I2 140 6 (nI (pe + 1)) := ⟨_, rfl⟩
      have cC : jfx (X5_findFault_F1 140 (nI cnt)) (fun _ _ => none) (nn + 1) (nI (k + 1)) I = if pe < n ∧ b pe = 32 then jfx (X5_findFault_F1 140 (nI cnt)) (fun _ _ => none) nn (nI (k + 1 + 1)) I3 else if pe < n then some (nI pe, I2) else some (-1, I2) := by
        rw [jfx_s, X5_findFault_F1, if_neg (lnlt2 (30 : Int32) 30 rfl (show k + 1 ≤ 30 by omega) (by omega)), q7, jb2_some, if_neg (by decide), ← hI2, jlet_d, h0, e2 140 6 (by omega), q8]
        by_cases c1 : pe < n
        · have hby : byt b n pe = nI (b pe) := if_pos c1
          rw [if_pos (nI_lt c1 (by omega)), byte_C hT2 hn (by omega), ob_some, hby, ifc (let32 (hbb pe c1))]
          by_cases c2 : b pe = 32
          · rw [if_pos c2, if_neg (fun z => by rw [show (30 : Int32) = nI 30 from rfl, nI_eq (by omega) (by omega)] at z; omega), jlet_d, nI_1, nI_1, ← hI3, if_pos (show pe < n ∧ b pe = 32 from ⟨c1, c2⟩)]
          · rw [if_neg c2, if_neg (fun z => c2 z.2), if_pos c1]
        · rw [if_neg (nI_nlt (by omega) (by omega)), if_neg (fun z => c1 z.1), if_neg c1]
      have mM : ∀ J : jI, TM J n pl b → J 164 10 = -1 → J 165 688 = nI cnt → M0 0 (mm + 1) 0 k J = if pe < n ∧ b pe = 32 then M0 0 mm 0 (k + 1) (jup J 164 9 (nI (pe + 1))) else if pe < n then some (0, jup (jup J 164 9 (nI pe)) 164 10 (nI pe)) else some (0, jup J 164 9 (nI pe)) := fun J hM h10 h688 => by
        have e : M0 0 (mm + 1) 0 k J = jfx (X7_parts_F1 164 0 k8M) (fun _ _ _ => none) (mm + 1) 0 (nI (k + 1)) (jup J 164 9 (nI pe)) := by
          unfold M0
          rw [q13 J hM h10 h688 0, if_pos rfl, jb2_some, jlet_d, Int32.add_zero]
        rw [e, after_M (b := b) (n := n) hn hbb ⟨by rw [jup_nj _ _ (by omega)]; exact hM.1, by rw [jup_q, ju1_eq], fun i hi => by rw [jup_nj _ _ (by omega)]; exact hM.2.2 i hi⟩ (by rw [jup_nj _ _ (by omega)]; exact h10) q6 hk30, jup_jup]
        exact ifc ⟨fun z => z.2, fun z => ⟨by omega, z⟩⟩
      by_cases c2 : pe < n ∧ b pe = 32
      · obtain ⟨I', f1, f2⟩ := ih (k + 1) (pe + 1) nn mm I3 (by omega) ⟨by rw [hI3, jup_nj _ _ (by omega)]; exact h0, by rw [hI3, jup_q, ju1_eq], fun i hi => by rw [hI3, jup_nj _ _ (by omega)]; exact hT2.2.2 i hi⟩ (by omega) (by rw [hI3, jup_nj _ _ (by omega), hI2, jup_q, ju1_eq]) (by omega) (by omega)
        have e3 : ∀ r j, (r ≠ 140 ∨ (j ≠ 6 ∧ j ≠ 1)) → I3 r j = I1 r j := fun r j a => by rw [hI3, jup_nj _ _ (by omega), e2 r j (by omega)]
        refine ⟨I', fun r j a c => by rw [f1 r j a (by omega), e3 r j (by omega), q12 r j (by omega) (by omega)], ?_⟩
        have mJ : ∀ J : jI, TM J n pl b → J 164 10 = -1 → J 165 688 = nI cnt → TM (jup J 164 9 (nI (pe + 1))) n (pe + 1) b ∧ jup J 164 9 (nI (pe + 1)) 164 10 = -1 ∧ jup J 164 9 (nI (pe + 1)) 165 688 = nI cnt := fun J hM h10 h688 => ⟨⟨by rw [jup_nj _ _ (by omega)]; exact hM.1, by rw [jup_q, ju1_eq], fun i hi => by rw [jup_nj _ _ (by omega)]; exact hM.2.2 i hi⟩, by rw [jup_nj _ _ (by omega)]; exact h10, by rw [jup_nj _ _ (by omega)]; exact h688⟩
        rcases f2 with ⟨q, z1, z2, z3⟩ | ⟨K, PC, X, Y, PL, PE, z1, z2, z3, z4⟩
        · left
          refine ⟨q, z1, by rw [cC, if_pos c2]; exact z2, fun J hM h10 h688 => ?_⟩
          obtain ⟨a1, a2, a3⟩ := mJ J hM h10 h688
          obtain ⟨J', t1, t2, t3⟩ := z3 _ a1 a2 a3
          exact ⟨J', by rw [mM J hM h10 h688, if_pos c2]; exact t1, t2, (SP.up (Or.inl rfl) _).tr t3⟩
        · right
          obtain ⟨r1, r2, r3, r4, r5, r6⟩ := z3
          refine ⟨K, fun j => if j = k then c else PC j, fun j => if j = k then x else X j, fun j => if j = k then y else Y j, fun j => if j = k then pl else PL j, fun j => if j = k then pe else PE j, by rw [cC, if_pos c2]; exact z1, if_pos rfl, ⟨by omega, r2, r3, fun j j1 j2 => ?_, fun j j1 j2 => ?_, ?_⟩, fun J hM h10 h688 => ?_⟩
          · by_cases e : j = k
            · subst e
              simp only [if_true]
              exact ⟨⟨q1, q2, q3, q4⟩, ⟨by rw [f1 142 j (by omega) (by omega), e3 142 j (by omega)]; exact q9, by rw [f1 143 j (by omega) (by omega), e3 143 j (by omega)]; exact q10, fun z => by rw [f1 144 j (by omega) (by omega), e3 144 j (by omega)]; exact q11 z⟩, q13, q6⟩
            · simp only [if_neg e]
              exact r4 j (by omega) j2
          · by_cases e : j = k
            · subst e
              simp only [if_true, if_neg (show ¬ j + 1 = j by omega)]
              exact ⟨c2.1, c2.2, z2⟩
            · simp only [if_neg e, if_neg (show ¬ j + 1 = k by omega)]
              exact r5 j (by omega) j2
          · simp only [if_neg (show ¬ K - 1 = k by omega)]
            exact r6
          · obtain ⟨a1, a2, a3⟩ := mJ J hM h10 h688
            obtain ⟨J', t1, t2, t3⟩ := z4 _ a1 a2 a3
            exact ⟨J', by rw [mM J hM h10 h688, if_pos c2]; exact t1, t2, (SP.up (Or.inl rfl) _).tr t3⟩
      · refine ⟨I2, F, ?_⟩
        by_cases c1 : pe < n
        · left
          exact ⟨pe, by omega, by rw [cC, if_neg c2, if_pos c1], fun J hM h10 h688 => ⟨_, by rw [mM J hM h10 h688, if_neg c2, if_pos c1], by rw [jup_q, ju1_eq], (SP.up (Or.inl rfl) _).tr (SP.up (Or.inr rfl) _)⟩⟩
        · right
          refine ⟨k + 1, fun _ => c, fun _ => x, fun _ => y, fun _ => pl, fun _ => pe, by rw [cC, if_neg c2, if_neg c1], rfl, ⟨by omega, by omega, by rw [hI2, jup_q, ju1_eq], fun j j1 j2 => ?_, fun j j1 j2 => by omega, show pe = n by omega⟩, fun J hM h10 h688 => ⟨_, by rw [mM J hM h10 h688, if_neg c2, if_neg c1], by rw [jup_nj _ _ (by omega)]; exact h10, SP.up (Or.inl rfl) _⟩⟩
          have : j = k := by omega
          subst this
          exact ⟨⟨q1, q2, q3, q4⟩, ⟨by rw [e2 _ _ (by omega)]; exact q9, by rw [e2 _ _ (by omega)]; exact q10, fun z => by rw [e2 _ _ (by omega)]; exact q11 z⟩, q13, q6⟩
    · refine ⟨I1, fun r j a c => q4 r j (by omega) (by omega), Or.inl ⟨q, q1, ?_, fun J hM h10 h688 => ?_⟩⟩
      · rw [jfx_s, X5_findFault_F1, if_neg (lnlt2 (30 : Int32) 30 rfl (show k + 1 ≤ 30 by omega) (by omega)), q2, jb2_some, if_pos rfl, q3]
      · obtain ⟨J', t1, t2, t3⟩ := q5 J hM h10 h688
        refine ⟨J', ?_, t2, t3⟩
        unfold M0
        rw [t1, jb2_some, jlet_d, jfx_s, X7_parts_F1, t2, if_pos (nI_pos' (by omega))]
        unfold k8M
        split
        · rfl
        · rw [wrong_X (q := q) (by omega) t2, ob_some]; rfl
/-- what a part does -/
def SR (J J' : jI) : Prop := ∀ r k, r ≠ 165 → (r ≠ 164 ∨ (k ≠ 5 ∧ k ≠ 6)) → J' r k = J r k
theorem act {B mode T : Nat} {S : Nat → Nat} {I : jI} {m : Mn} (h : ST B 2 cnt mode T S I m) (hB : B + 64 < 1073741824) {j c x y : Nat} (hj : j < 30) (hl : isLet c) (hlo : loN c ≤ x) (hhi : x ≤ hiN cnt c) (h142 : I 142 j = nI c) (h143 : I 143 j = nI x) (h144 : c = 119 → I 144 j = nI y) :
    ∃ v I' m' T', X6_doPart 1 (nI j) I = some (v, I') ∧ (∀ J : jI, J 165 = m → ∃ J', doM (nI c) (nI x) (nI y) J = some (v, J') ∧ J' 165 = m' ∧ SR J J') ∧ ST (B + 64) 2 cnt mode T' S I' m' ∧ ∀ r, (r < 2 ∨ 48 ≤ r) → I' r = I r := by
  have hw : X6_isWithin (nI j) 0 ((30 : Int32) - (1 : Int32)) = some 1 := wi_y (nI j) _ _ rfl (by omega) (by rw [show (0 : Int32).toInt = 0 from rfl]; omega) (by rw [show ((30 : Int32) - (1 : Int32)).toInt = 29 from by decide]; omega)
  have hji : jin (nI j) 30 := jin_N hj (by omega)
  have eL : X5_letterOf 140 (nI j) I = some (nI c) := by unfold X5_letterOf; rw [hw, ob_some, if_neg (by decide), if_pos hji, rT.2.2.2.2.2.1, cl_N (by omega), h142]
  have eN : X5_numberOf 140 (nI j) I = some (nI x) := by unfold X5_numberOf; rw [hw, ob_some, if_neg (by decide), if_pos hji, rT.2.2.2.2.2.2.1, cl_N (by omega), h143]
  have eV : c = 119 → X5_valueOf 140 (nI j) I = some (nI y) := fun z => by unfold X5_valueOf; rw [hw, ob_some, if_neg (by decide), if_pos hji, rT.2.2.2.2.2.2.2, cl_N (by omega), h144 z]
  have hSN : ∀ (J : jI) (a b : Int32) (z : Mn), SR J (Nf J a b z) := fun J a b z r k h1 h2 => by
    by_cases e : r = 164
    · subst e; rw [Nf_164, ju1_ne _ _ (by omega), ju1_ne _ _ (by omega)]
    · rw [NfD, jrow_ne _ _ h1, jrow_ne _ _ e]
  unfold X6_doPart
  rw [rT.1, eL, ob_some, eN, ob_some, rR.1]
  rcases hl with rfl | rfl | rfl | rfl
  · unfold hiN at hhi
    rw [if_neg (by omega), if_neg (by omega)] at hhi
    obtain ⟨cost, h6, I', m', -, a1, a2, -, a4, a5, -⟩ := access_sim OB2 h (show x < 64 by omega) (w := 0) (v := 0) (Or.inl rfl) hB
    refine ⟨nI cost, I', m', T + 1, ?_, fun J hJ => ⟨Nf J (nI cost) h6 m', ?_, Nf_165, hSN _ _ _ _⟩, a4, fun r hr => a5 r (by omega)⟩
    · rw [if_pos (by decide), a1, jb2_some]
    · unfold doM
      rw [jlet_d, if_neg (by decide), if_neg (by decide), if_pos (by decide), a2 rfl J hJ, jb2_some]
      dsimp only
      rw [jlet_d, if_pos (by decide), Nf_5]
  · unfold hiN at hhi
    rw [if_neg (by omega), if_neg (by omega)] at hhi
    obtain ⟨cost, h6, I', m', -, a1, -, a3, a4, a5, -⟩ := access_sim OB2 h (show x < 64 by omega) (w := 1) (v := nI y) (Or.inr rfl) hB
    refine ⟨nI cost, I', m', T + 1, ?_, fun J hJ => ⟨Nf J (nI cost) h6 m', ?_, Nf_165, hSN _ _ _ _⟩, a4, fun r hr => a5 r (by omega)⟩
    · rw [if_neg (by decide), if_pos (by decide), eV rfl, ob_some, a1, jb2_some]
    · unfold doM
      rw [jlet_d, if_neg (by decide), if_neg (by decide), if_neg (by decide), a3 rfl J hJ, jb2_some]
      dsimp only
      rw [jlet_d, if_neg (by decide), if_pos (by decide), Nf_5]
  · unfold hiN at hhi
    unfold loN at hlo
    rw [if_pos rfl] at hhi hlo
    obtain ⟨l, rfl⟩ : ∃ l, x = l + 1 := ⟨x - 1, by omega⟩
    obtain ⟨cc, I', m', -, a1, a2, a3, a4⟩ := sweep_ST OB2 (show l < cnt by omega) h
    refine ⟨0, I', m', T, ?_, fun J hJ => ⟨jrow J 165 m', ?_, jrow_self _ _ _, fun r k h1 h2 => by rw [jrow_ne _ _ h1]⟩, a3.mono (by omega), fun r hr => a4 r (by omega)⟩
    · rw [if_neg (by decide), if_neg (by decide), jlet_d, if_pos (by decide), a1, jb2_some]
      dsimp only
      rw [if_neg (by decide)]
    · unfold doM
      rw [jlet_d, if_pos (by decide), nI_pred, a2 J hJ, jb2_some]
      dsimp only
      rw [jlet_d, if_neg (by decide), if_neg (by decide)]
  · unfold hiN at hhi
    rw [if_neg (by omega), if_pos rfl] at hhi
    refine ⟨0, jup I 2 6 (nI x), ju1 m 691 (nI x), T, ?_, fun J hJ => ⟨jrow J 165 (ju1 m 691 (nI x)), ?_, jrow_self _ _ _, fun r k h1 h2 => by rw [jrow_ne _ _ h1]⟩, (h.ahead hhi).mono (by omega), fun r hr => jup_ne _ _ (by omega)⟩
    · rw [if_neg (by decide), if_neg (by decide), jlet_d, if_neg (by decide)]
      dsimp only
      rw [if_pos (by decide), jlet_d]
    · unfold doM
      rw [jlet_d, if_neg (by decide), if_pos (by decide), if_pos (by decide), jlet_d, rM0, show ((691 : Int32)).toNatClampNeg = 691 from rfl, jup_def, hJ]
      dsimp only
      rw [jlet_d, if_neg (by decide), if_neg (by decide)]
def SQ (J J' : jI) : Prop := ∀ r k, r ≠ 165 → (r ≠ 164 ∨ (k ≠ 5 ∧ k ≠ 6 ∧ k ≠ 9 ∧ k ≠ 10)) → J' r k = J r k
theorem SQ.tr {J J' J'' : jI} (h : SQ J J') (h2 : SQ J' J'') : SQ J J'' := fun r k a c => (h2 r k a c).trans (h r k a c)
theorem run {mode : Nat} {S : Nat → Nat} (hn : n ≤ 250) (hbb : ∀ i, i < n → b i < 256) {I0 : jI} {K : Nat} {PC X Y PL PE : Nat → Nat} (hR : REC n cnt b I0 0 K PC X Y PL PE) : ∀ d j nn mm (B T : Nat) (acc : Int32) (I : jI) (m : Mn), j + d + 1 = K → d + 1 < nn → d < mm → ST B 2 cnt mode T S I m → (∀ r, 48 ≤ r → I r = I0 r) → B + 64 * (d + 1) < 1073741824 →
    ∃ v I' m' T', jfx (X6_traffic_F1 1) (fun _ _ _ => none) nn acc (nI j) I = some (v, I') ∧ (∀ J : jI, J 165 = m → TM J n (PL j) b → J 164 10 = -1 → ∃ J', M0 1 mm acc j J = some (v, J') ∧ J' 165 = m' ∧ SQ J J') ∧ ST (B + 64 * (d + 1)) 2 cnt mode T' S I' m' ∧ ∀ r, (r < 2 ∨ 48 ≤ r) → I' r = I r := by
  obtain ⟨r1, r2, r3, r4, r5, r6⟩ := hR
  intro d
  induction d with
  | zero =>
    intro j nn mm B T acc I m h1 h2 h3 hS hI hB
    obtain ⟨nn, rfl⟩ : ∃ q, nn = q + 1 := ⟨nn - 1, by omega⟩
    obtain ⟨mm, rfl⟩ : ∃ q, mm = q + 1 := ⟨mm - 1, by omega⟩
    obtain ⟨⟨u1, u2, u3, u4⟩, ⟨w1, w2, w3⟩, hMOK, hPE⟩ := r4 j (by omega) (by omega)
    obtain ⟨v, I', m', T', a1, a2, a3, a4⟩ := act hS (by omega) (j := j) (y := Y j) (by omega) u1 u2 u3 (by rw [hI 142 (by omega)]; exact w1) (by rw [hI 143 (by omega)]; exact w2) (fun z => by rw [hI 144 (by omega)]; exact w3 z)
    refine ⟨acc + v, I', m', T', ?_, fun J hJ hM h10 => ?_, a3.mono (by omega), a4⟩
    · obtain ⟨nn, rfl⟩ : ∃ q, nn = q + 1 := ⟨nn - 1, by omega⟩
      rw [jfx_s, X6_traffic_F1, rT.1, hI 140 (by omega), r3, if_neg (nI_ge (by omega) (by omega)), a1, jb2_some, jlet_d, nI_1, jfx_s, X6_traffic_F1, rT.1, a4 140 (by omega), hI 140 (by omega), r3, if_pos (nI_le (by omega) (by omega))]
    · obtain ⟨J', t1, t2, t3⟩ := a2 (jup J 164 9 (nI (PE j))) (by rw [jup_ne _ _ (by omega)]; exact hJ)
      have hTM : TM J' n (PE j) b := ⟨by rw [t3 164 8 (by omega) (by omega), jup_nj _ _ (by omega)]; exact hM.1, by rw [t3 164 9 (by omega) (by omega), jup_q, ju1_eq], fun i hi => by rw [t3 169 i (by omega) (by omega), jup_nj _ _ (by omega)]; exact hM.2.2 i hi⟩
      have hPEn : PE j = n := by rw [show j = K - 1 by omega]; exact r6
      refine ⟨J', ?_, t2, fun r k x1 x2 => by rw [t3 r k x1 (by omega), jup_nj _ _ (by omega)]⟩
      unfold M0
      rw [hMOK J hM h10 (by rw [hJ]; exact hS.2.1.2.1) 1, if_neg (by decide), t1, jb2_some, jlet_d, after_M hn hbb hTM (by rw [t3 164 10 (by omega) (by omega), jup_nj _ _ (by omega)]; exact h10) hPE (by omega), if_neg (fun z => by omega), if_neg (by omega)]
  | succ d ih =>
    intro j nn mm B T acc I m h1 h2 h3 hS hI hB
    obtain ⟨nn, rfl⟩ : ∃ q, nn = q + 1 := ⟨nn - 1, by omega⟩
    obtain ⟨mm, rfl⟩ : ∃ q, mm = q + 1 := ⟨mm - 1, by omega⟩
    obtain ⟨⟨u1, u2, u3, u4⟩, ⟨w1, w2, w3⟩, hMOK, hPE⟩ := r4 j (by omega) (by omega)
    obtain ⟨v1, v2, v3⟩ := r5 j (by omega) (by omega)
    obtain ⟨v, I1, m1, T1, a1, a2, a3, a4⟩ := act hS (by omega) (j := j) (y := Y j) (by omega) u1 u2 u3 (by rw [hI 142 (by omega)]; exact w1) (by rw [hI 143 (by omega)]; exact w2) (fun z => by rw [hI 144 (by omega)]; exact w3 z)
    obtain ⟨v', I', m', T', b1, b2, b3, b4⟩ := ih (j + 1) nn mm (B + 64) T1 (acc + v) I1 m1 (by omega) (by omega) (by omega) a3 (fun r hr => by rw [a4 r (by omega), hI r hr]) (by omega)
    refine ⟨v', I', m', T', ?_, fun J hJ hM h10 => ?_, b3.mono (by omega), fun r hr => by rw [b4 r hr, a4 r hr]⟩
    · rw [jfx_s, X6_traffic_F1, rT.1, hI 140 (by omega), r3, if_neg (nI_ge (by omega) (by omega)), a1, jb2_some, jlet_d, nI_1]
      exact b1
    · obtain ⟨J1, t1, t2, t3⟩ := a2 (jup J 164 9 (nI (PE j))) (by rw [jup_ne _ _ (by omega)]; exact hJ)
      have hTM : TM J1 n (PE j) b := ⟨by rw [t3 164 8 (by omega) (by omega), jup_nj _ _ (by omega)]; exact hM.1, by rw [t3 164 9 (by omega) (by omega), jup_q, ju1_eq], fun i hi => by rw [t3 169 i (by omega) (by omega), jup_nj _ _ (by omega)]; exact hM.2.2 i hi⟩
      have h10' : J1 164 10 = -1 := by rw [t3 164 10 (by omega) (by omega), jup_nj _ _ (by omega)]; exact h10
      obtain ⟨J', c1, c2, c3⟩ := b2 (jup J1 164 9 (nI (PE j + 1))) (by rw [jup_ne _ _ (by omega)]; exact t2) ⟨by rw [jup_nj _ _ (by omega)]; exact hTM.1, by rw [jup_q, ju1_eq, v3], fun i hi => by rw [jup_nj _ _ (by omega)]; exact hTM.2.2 i hi⟩ (by rw [jup_nj _ _ (by omega)]; exact h10')
      refine ⟨J', ?_, c2, fun r k x1 x2 => by rw [c3 r k x1 x2, jup_nj _ _ (by omega), t3 r k x1 (by omega), jup_nj _ _ (by omega)]⟩
      have : M0 1 (mm + 1) acc j J = M0 1 mm (acc + v) (j + 1) (jup J1 164 9 (nI (PE j + 1))) := by
        have e : M0 1 (mm + 1) acc j J = jfx (X7_parts_F1 164 1 k8M) (fun _ _ _ => none) (mm + 1) (acc + v) (nI (j + 1)) J1 := by
          unfold M0
          rw [hMOK J hM h10 (by rw [hJ]; exact hS.2.1.2.1) 1, if_neg (by decide), t1, jb2_some, jlet_d]
        rw [e, after_M hn hbb hTM h10' hPE (by omega), if_pos ⟨by omega, v1, v2⟩]
      rw [this]
      exact c1
end TF
