/-! PARTS of the tape: on both sides -/
def doM (y1 y9 v12 : Int32) (I13 : jI) : Option (Int32 × jI) :=
jlet (fun (I17 : jI) =>
jlet (
some ((I17 164 5), I17)) (fun (k19 : Option (Int32 × jI)) =>
if y1 = (114 : Int32) then (
k19)
else (
if y1 = (119 : Int32) then (
k19)
else (
some ((0 : Int32), I17))))) (fun (k18 : jI → Option (Int32 × jI)) =>
if y1 = (115 : Int32) then (
jb2 (X7_sweeps 164 (y9 - (1 : Int32)) I13) (fun (y33 : Int32) (I34 : jI) =>
k18 I34))
else (
if y1 = (97 : Int32) then (
if jin (691 : Int32) 784 then jlet (jup I13 (rfC 164 0) ((691 : Int32)).toNatClampNeg y9) (fun (I32 : jI) =>
k18 I32) else none)
else (
if y1 = (114 : Int32) then (
jb2 (X7_reads 164 y9 I13) (fun (y28 : Int32) (I29 : jI) =>
k18 I29))
else (
jb2 (X7_writes 164 y9 v12 I13) (fun (y25 : Int32) (I26 : jI) =>
k18 I26)))))
def k14M (y1 p0 y9 : Int32) : Int32 → jI → Option (Int32 × jI) := fun (v12 : Int32) (I13 : jI) => if p0 = 0 then some ((0 : Int32), I13) else (if (I13 164 10) < 0 then doM y1 y9 v12 I13 else some ((0 : Int32), I13))
def partN (y1 p0 y9 : Int32) (I10 : jI) : Option (Int32 × jI) :=
jlet (k14M y1 p0 y9) (fun (k14 : Int32 → jI → Option (Int32 × jI)) =>
if y1 = (119 : Int32) then (
(X7_peek 164 I10).bind (fun (y37 : Int32) =>
jlet (fun (I39 : jI) =>
jlet (jup I39 164 9 ((I39 164 9) + (1 : Int32))) (fun (I41 : jI) =>
jb2 (X7_number 164 (0 : Int32) (999 : Int32) I41) (fun (y42 : Int32) (I43 : jI) =>
k14 y42 I43))) (fun (k40 : jI → Option (Int32 × jI)) =>
if y37 = (61 : Int32) then (
k40 I10)
else (
(X7_wrong 164 (I10 164 9) I10).bind (fun (I46 : jI) =>
k40 I46)))))
else (
k14 (0 : Int32) I10))
def partB (y1 p0 : Int32) (I4 : jI) : Option (Int32 × jI) :=
jlet (if y1 = (115 : Int32) then (1 : Int32) else (0 : Int32)) (fun (y6 : Int32) =>
jlet (fun (v7 : Int32) =>
jb2 (X7_number 164 y6 v7 I4) (fun (y9 : Int32) (I10 : jI) => partN y1 p0 y9 I10)) (fun (k8 : Int32 → Option (Int32 × jI)) =>
if y1 = (115 : Int32) then (
if jin (688 : Int32) 784 then (
k8 (I4 (rfC 164 0) ((688 : Int32)).toNatClampNeg)) else none)
else (
if y1 = (97 : Int32) then (
k8 (8 : Int32))
else (
k8 (63 : Int32)))))
theorem part_e (p0 : Int32) (I0 : jI) : X7_part 164 p0 I0 = (X7_peek 164 I0).bind (fun (y1 : Int32) =>
jlet (partB y1 p0 (jup I0 164 9 ((I0 164 9) + (1 : Int32)))) (fun (k3 : Option (Int32 × jI)) =>
if y1 = (114 : Int32) then (
k3)
else (
if y1 = (119 : Int32) then (
k3)
else (
if y1 = (115 : Int32) then (
k3)
else (
if y1 = (97 : Int32) then (
k3)
else (
(X7_wrong 164 (I0 164 9) I0).bind (fun (I55 : jI) =>
some ((0 : Int32), I55)))))))) := rfl
def isLet (c : Nat) : Prop := c = 114 ∨ c = 119 ∨ c = 115 ∨ c = 97
def loN (c : Nat) : Nat := if c = 115 then 1 else 0
def hiN (cnt c : Nat) : Nat := if c = 115 then cnt else if c = 97 then 8 else 63
theorem letC {c w : Nat} (hc : c < 256) (hw : w < 256) {x : Int32} (hx : x = nI w) : (nI c = x) ↔ c = w := by
  rw [hx, nI_eq (by omega) (by omega)]
theorem let114 {c : Nat} (hc : c < 256) : (nI c = (114 : Int32)) ↔ c = 114 := letC hc (w := 114) (by omega) rfl
theorem let119 {c : Nat} (hc : c < 256) : (nI c = (119 : Int32)) ↔ c = 119 := letC hc (w := 119) (by omega) rfl
theorem let115 {c : Nat} (hc : c < 256) : (nI c = (115 : Int32)) ↔ c = 115 := letC hc (w := 115) (by omega) rfl
theorem let97 {c : Nat} (hc : c < 256) : (nI c = (97 : Int32)) ↔ c = 97 := letC hc (w := 97) (by omega) rfl
theorem let61 {c : Nat} (hc : c < 256) : (nI c = (61 : Int32)) ↔ c = 61 := letC hc (w := 61) (by omega) rfl
theorem let32 {c : Nat} (hc : c < 256) : (nI c = (32 : Int32)) ↔ c = 32 := letC hc (w := 32) (by omega) rfl
theorem lo_e {c : Nat} (hc : c < 256) : (if nI c = (115 : Int32) then (1 : Int32) else (0 : Int32)) = nI (loN c) := by
  rw [ifc (let115 hc)]
  unfold loN
  split <;> rfl
section PT
variable {n cnt : Nat} {b : Nat → Nat}
theorem partB_e {c : Nat} (hc : c < 256) {J : jI} (h688 : J 165 688 = nI cnt) (p0 : Int32) : partB (nI c) p0 J = jb2 (X7_number 164 (nI (loN c)) (nI (hiN cnt c)) J) (fun y9 I10 => partN (nI c) p0 y9 I10) := by
  unfold partB
  rw [lo_e hc, jlet_d, jlet_d, ifc (let115 hc), ifc (let97 hc)]
  unfold hiN
  by_cases e1 : c = 115
  · rw [if_pos e1, if_pos e1, if_pos (show jin (688 : Int32) 784 by decide), rM0, show ((688 : Int32)).toNatClampNeg = 688 from rfl, h688]
  · rw [if_neg e1, if_neg e1]
    by_cases e2 : c = 97
    · rw [if_pos e2, if_pos e2]; rfl
    · rw [if_neg e2, if_neg e2]; rfl
theorem most_e {c : Nat} (hc : c < 256) : X5_mostBehind (nI c) (nI cnt) = some (nI (hiN cnt c)) := by
  unfold X5_mostBehind hiN
  rw [ifc (let115 hc), ifc (let97 hc)]
  by_cases e1 : c = 115
  · rw [if_pos e1, if_pos e1]
  · rw [if_neg e1, if_neg e1]
    by_cases e2 : c = 97
    · rw [if_pos e2, if_pos e2]; rfl
    · rw [if_neg e2, if_neg e2]; rfl
def SP (J J' : jI) : Prop := ∀ r k, (r ≠ 164 ∨ (k ≠ 9 ∧ k ≠ 10)) → J' r k = J r k
def FR (k : Nat) (I I' : jI) : Prop := ∀ r j, (r ≠ 140 ∨ (j ≠ 6 ∧ j ≠ 7)) → ((r = 142 ∨ r = 143 ∨ r = 144) → j ≠ k) → I' r j = I r j
def MOK (n cnt : Nat) (b : Nat → Nat) (pl c x y pe : Nat) : Prop := ∀ J : jI, TM J n pl b → J 164 10 = -1 → J 165 688 = nI cnt → ∀ p0 : Int32, X7_part 164 p0 J = (if p0 = 0 then some (0, jup J 164 9 (nI pe)) else doM (nI c) (nI x) (nI y) (jup J 164 9 (nI pe)))
def MBAD (n cnt : Nat) (b : Nat → Nat) (pl q : Nat) : Prop := ∀ J : jI, TM J n pl b → J 164 10 = -1 → J 165 688 = nI cnt → ∃ J', X7_part 164 0 J = some (0, J') ∧ J' 164 10 = nI q ∧ SP J J'
theorem k14_ok {c x y : Nat} {J : jI} (h10 : J 164 10 = -1) (p0 : Int32) : k14M (nI c) p0 (nI x) (nI y) J = (if p0 = 0 then some (0, J) else doM (nI c) (nI x) (nI y) J) := by
  unfold k14M
  rw [h10]
  by_cases e : p0 = 0
  · rw [if_pos e, if_pos e]
  · rw [if_neg e, if_neg e, if_pos (by decide)]
theorem part_let {c : Nat} (hc : c < 256) {J : jI} {pl : Nat} (h9 : J 164 9 = nI pl) (hpk : X7_peek 164 J = some (nI c)) (p0 : Int32) : (isLet c → X7_part 164 p0 J = partB (nI c) p0 (jup J 164 9 (nI (pl + 1)))) := by
  intro hl
  rw [part_e, hpk, ob_some, jlet_d, h9, nI_1, ifc (let114 hc), ifc (let119 hc), ifc (let115 hc), ifc (let97 hc)]
  rcases hl with e | e | e | e
  · rw [if_pos e]
  · rw [if_neg (by omega), if_pos e]
  · rw [if_neg (by omega), if_neg (by omega), if_pos e]
  · rw [if_neg (by omega), if_neg (by omega), if_neg (by omega), if_pos e]
theorem wrong_X {J : jI} {q : Nat} (hq : q < 1000) (h10 : J 164 10 = nI q) (v : Int32) : X7_wrong 164 v J = some J := by
  unfold X7_wrong
  rw [h10, if_pos (nI_pos' (by omega)), jlet_d, jup_id _ _ _ h10]
theorem SP.tr {J J' J'' : jI} (h : SP J J') (h2 : SP J' J'') : SP J J'' := fun r k a => (h2 r k a).trans (h r k a)
theorem SP.up {J : jI} {k : Nat} (hk : k = 9 ∨ k = 10) (v : Int32) : SP J (jup J 164 k v) := fun r j a => jup_nj _ _ (by omega)
/-- behind a fault the rest of a part changes nothing that counts -/
theorem partN_X (hn : n ≤ 250) {c q p1 : Nat} (hc : c < 256) {J : jI} {y9 : Int32} (hq : q < 1000) (h10 : J 164 10 = nI q) (h8 : J 164 8 = nI n) (h9 : J 164 9 = nI p1) (hb : ∀ i, i < n → J 169 i = nI (b i)) (hp1 : p1 ≤ 1000) : ∃ J', partN (nI c) 0 y9 J = some (0, J') ∧ J' 164 10 = nI q ∧ SP J J' := by
  have tail : ∃ J', jlet (jup J 164 9 ((J 164 9) + (1 : Int32))) (fun (I41 : jI) =>
jb2 (X7_number 164 (0 : Int32) (999 : Int32) I41) (fun (y42 : Int32) (I43 : jI) =>
k14M (nI c) 0 y9 y42 I43)) = some (0, J') ∧ J' 164 10 = nI q ∧ SP J J' := by
    obtain ⟨v, hv⟩ := num_MX (J := jup J 164 9 ((J 164 9) + (1 : Int32))) (lo := 0) (hi := 999) hq (by rw [jup_nj _ _ (by omega)]; exact h10)
    refine ⟨jup J 164 9 ((J 164 9) + (1 : Int32)), ?_, ?_, SP.up (Or.inl rfl) _⟩
    · rw [jlet_d, hv, jb2_some]
      unfold k14M
      rw [if_pos rfl]
    · rw [jup_nj _ _ (by omega)]; exact h10
  unfold partN
  rw [jlet_d, ifc (let119 hc)]
  by_cases e : c = 119
  · rw [if_pos e, peek_M h8 h9 hb hn (by omega), ob_some, jlet_d, wrong_X hq h10, ob_some]
    obtain ⟨J', t1, t2, t3⟩ := tail
    refine ⟨J', ?_, t2, t3⟩
    split <;> exact t1
  · rw [if_neg e]
    refine ⟨J, ?_, h10, fun _ _ _ => rfl⟩
    unfold k14M
    rw [if_pos rfl]
theorem hi_le {c : Nat} (h4 : cnt ≤ 4) : loN c ≤ 1 ∧ hiN cnt c ≤ 63 := by
  unfold loN hiN
  constructor
  · split <;> omega
  · split
    · omega
    · split <;> omega
theorem part_both (hn : n ≤ 250) (h4 : cnt ≤ 4) {k pl : Nat} {I : jI} (hT : TC I n pl b) (hk : I 140 1 = nI k) (hk30 : k < 30) (hpl : pl ≤ n) :
    (∃ c x y pe I', isLet c ∧ loN c ≤ x ∧ x ≤ hiN cnt c ∧ y ≤ 999 ∧ pl < pe ∧ pe ≤ n ∧ X5_readPart 140 (nI cnt) I = some (1, I') ∧ I' 140 6 = nI pe ∧ I' 142 k = nI c ∧ I' 143 k = nI x ∧ (c = 119 → I' 144 k = nI y) ∧ FR k I I' ∧ MOK n cnt b pl c x y pe) ∨
    (∃ q I', q ≤ 251 ∧ X5_readPart 140 (nI cnt) I = some (0, I') ∧ I' 140 6 = nI q ∧ FR k I I' ∧ MBAD n cnt b pl q) := by
  have hbb : ∀ i, i < n → b i < 256 := fun i hi => (hT.2.2 i hi).1
  by_cases hlet : pl < n ∧ isLet (b pl)
  · obtain ⟨hlt, hl⟩ := hlet
    obtain ⟨c, hcE⟩ : ∃ c, c = b pl := ⟨_, rfl⟩
    rw [← hcE] at hl
    have hc : c < 256 := by rw [hcE]; exact hbb pl hlt
    have hby : byt b n pl = nI c := by rw [hcE]; exact if_pos hlt
    obtain ⟨hl1, hh1⟩ := hi_le (c := c) h4
    obtain ⟨I4, hI4⟩ : ∃ I4, I4 = jup I 140 6 (nI (pl + 1)) := ⟨_, rfl⟩
    have hS4 : SC I I4 := fun r j hr => by rw [hI4, jup_nj _ _ (by omega)]
    have hT4 : TC I4 n (pl + 1) b := ⟨by rw [hS4 140 0 (by omega)]; exact hT.1, by rw [hI4, jup_q, ju1_eq], fun i hi => by rw [hS4 141 i (by omega)]; exact hT.2.2 i hi⟩
    obtain ⟨I10, s10, hnum⟩ := num_C hn (show pl + 1 ≤ n by omega) (show loN c < 2147483648 by omega) (show hiN cnt c < 2147483648 by omega) hT4
    have k10 : I10 140 1 = nI k := by rw [s10 140 1 (by omega), hS4 140 1 (by omega)]; exact hk
    have cC : X5_readPart 140 (nI cnt) I = jb2 (X5_readNumber 140 (nI (loN c)) (nI (hiN cnt c)) I4) (fun (y9 : Int32) (I10 : jI) =>
if y9 = 0 then (
some ((0 : Int32), I10))
else (
if (I10 140 1) < (30 : Int32) then (
if jin (I10 140 1) 30 then jlet (jup I10 142 ((I10 140 1)).toNatClampNeg (nI c)) (fun (I15 : jI) =>
if jin (I15 140 1) 30 then jlet (jup I15 143 ((I15 140 1)).toNatClampNeg (I15 140 7)) (fun (I17 : jI) =>
if c = 119 then (
jb2 (X5_readValue 140 I17) (fun (y21 : Int32) (I22 : jI) =>
if y21 = 0 then (
some ((0 : Int32), I22))
else (
some ((1 : Int32), I22))))
else (
some ((1 : Int32), I17))) else none) else none)
else (
some ((0 : Int32), I10)))) := by
      have body : ∀ X : Option (Int32 × jI), (if nI c = (114 : Int32) then X else (if nI c = (119 : Int32) then X else (if nI c = (115 : Int32) then X else (if nI c = (97 : Int32) then X else some ((0 : Int32), I))))) = X := fun X => by
        rw [ifc (let114 hc), ifc (let119 hc), ifc (let115 hc), ifc (let97 hc)]
        rcases hl with e | e | e | e
        · rw [if_pos e]
        · rw [if_neg (by omega), if_pos e]
        · rw [if_neg (by omega), if_neg (by omega), if_pos e]
        · rw [if_neg (by omega), if_neg (by omega), if_neg (by omega), if_pos e]
      unfold X5_readPart
      rw [byte_C hT hn hpl, ob_some, hby, jlet_d]
      refine (body _).trans ?_
      rw [jlet_d, hT.2.1, nI_1, ← hI4, lo_e hc, jlet_d, most_e hc, ob_some, rT.2.2.2.2.2.1, rT.2.2.2.2.2.2.1]
      refine congrArg (fun g => jb2 (X5_readNumber 140 (nI (loN c)) (nI (hiN cnt c)) I4) g) ?_
      funext y9 I10
      simp only [jlet_d, let119 hc]
    have mJ4 : ∀ J : jI, TM J n pl b → J 164 10 = -1 → J 165 688 = nI cnt → TM (jup J 164 9 (nI (pl + 1))) n (pl + 1) b ∧ jup J 164 9 (nI (pl + 1)) 164 10 = -1 ∧ ∀ p0, X7_part 164 p0 J = jb2 (X7_number 164 (nI (loN c)) (nI (hiN cnt c)) (jup J 164 9 (nI (pl + 1)))) (fun y9 I10 => partN (nI c) p0 y9 I10) := fun J hM h10 h688 => by
      refine ⟨⟨by rw [jup_nj _ _ (by omega)]; exact hM.1, by rw [jup_q, ju1_eq], fun i hi => by rw [jup_nj _ _ (by omega)]; exact hM.2.2 i hi⟩, by rw [jup_nj _ _ (by omega)]; exact h10, fun p0 => ?_⟩
      rw [part_let hc hM.2.1 (by rw [peek_M hM.1 hM.2.1 hM.2.2 hn (by omega), hby]) p0 hl, partB_e hc (by rw [jup_ne _ _ (by omega)]; exact h688)]
    obtain ⟨c1, c2, c3⟩ := nrd3 (b := b) (show pl + 1 ≤ n by omega)
    obtain ⟨p1, hp1⟩ : ∃ p1, p1 = (nrd b n 3 (pl + 1) 0).1 := ⟨_, rfl⟩
    obtain ⟨v1, hv1⟩ : ∃ v1, v1 = (nrd b n 3 (pl + 1) 0).2 := ⟨_, rfl⟩
    rw [← hp1] at c1 c2
    rw [← hv1] at c3
    rcases hnum with ⟨ok, e1, e2, e3⟩ | ⟨bad, e1, e2⟩
    · rw [← hp1] at e2
      rw [← hv1] at e3
      obtain ⟨I17, hI17⟩ : ∃ I17, I17 = jup (jup I10 142 k (nI c)) 143 k (nI v1) := ⟨_, rfl⟩
      have f17 : ∀ r j, r ≠ 142 → r ≠ 143 → I17 r j = I10 r j := fun r j x y => by rw [hI17, jup_ne _ _ y, jup_ne _ _ x]
      have F17 : FR k I I17 := fun r j x y => by
        rw [hI17, jup_nj _ _ (by omega), jup_nj _ _ (by omega), s10 r j (by omega), hS4 r j (by omega)]
      have g142 : I17 142 k = nI c := by rw [hI17, jup_ne _ _ (by omega), jup_q, ju1_eq]
      have g143 : I17 143 k = nI v1 := by rw [hI17, jup_q, ju1_eq]
      have cC2 : X5_readPart 140 (nI cnt) I = if c = 119 then (
jb2 (X5_readValue 140 I17) (fun (y21 : Int32) (I22 : jI) =>
if y21 = 0 then (
some ((0 : Int32), I22))
else (
some ((1 : Int32), I22))))
else (
some ((1 : Int32), I17)) := by
        rw [cC, e1, jb2_some, if_neg (by decide), k10, if_pos (llt (30 : Int32) 30 rfl (by omega) (by omega)), if_pos (jin_N (by omega) (by omega)), jlet_d, jup_ne _ _ (show 140 ≠ 142 by omega), k10, if_pos (jin_N (by omega) (by omega)), jlet_d, cl_N (by omega), e3, ← hI17]
      have mOK : ∀ J : jI, TM J n pl b → J 164 10 = -1 → J 165 688 = nI cnt → ∀ p0, X7_part 164 p0 J = partN (nI c) p0 (nI v1) (jup J 164 9 (nI p1)) := fun J hM h10 h688 p0 => by
        obtain ⟨a1, a2, a3⟩ := mJ4 J hM h10 h688
        rw [a3 p0, (num_M hn (show pl + 1 ≤ n by omega) (by omega) (by omega) a1 hbb a2).1 ok, jb2_some, jup_jup, ← hp1, ← hv1]
      have okb := ok.2
      rw [← hv1] at okb
      by_cases e119 : c = 119
      · rw [if_pos e119] at cC2
        have hT17 : TC I17 n p1 b := ⟨by rw [f17 _ _ (by omega) (by omega), s10 140 0 (by omega)]; exact hT4.1, by rw [f17 _ _ (by omega) (by omega)]; exact e2, fun i hi => by rw [f17 _ _ (by omega) (by omega), s10 141 i (by omega)]; exact hT4.2.2 i hi⟩
        have h61 : (byt b n p1 = 61) ↔ (p1 < n ∧ b p1 = 61) := by
          unfold byt
          by_cases cc : p1 < n
          · have := hbb p1 cc
            rw [if_pos cc, let61 (show b p1 < 256 by omega)]
            exact ⟨fun z => ⟨cc, z⟩, fun z => z.2⟩
          · rw [if_neg cc]
            exact ⟨fun z => absurd z (by decide), fun z => absurd z.1 cc⟩
        by_cases heq : p1 < n ∧ b p1 = 61
        · obtain ⟨I18, hI18⟩ : ∃ I18, I18 = jup I17 140 6 (nI (p1 + 1)) := ⟨_, rfl⟩
          have s18 : SC I17 I18 := fun r j hr => by rw [hI18, jup_nj _ _ (by omega)]
          have hT18 : TC I18 n (p1 + 1) b := ⟨by rw [s18 140 0 (by omega)]; exact hT17.1, by rw [hI18, jup_q, ju1_eq], fun i hi => by rw [s18 141 i (by omega)]; exact hT17.2.2 i hi⟩
          obtain ⟨I20, s20, hnum2⟩ := num_C (lo := 0) (hi := 999) hn (show p1 + 1 ≤ n by omega) (by omega) (by omega) hT18
          have k20 : I20 140 1 = nI k := by rw [s20 140 1 (by omega), s18 140 1 (by omega), f17 _ _ (by omega) (by omega)]; exact k10
          have F20 : FR k I I20 := fun r j x y => by rw [s20 r j x, s18 r j x, F17 r j x y]
          obtain ⟨d1, d2, d3⟩ := nrd3 (b := b) (show p1 + 1 ≤ n by omega)
          have mOK2 : ∀ J : jI, TM J n pl b → J 164 10 = -1 → J 165 688 = nI cnt → TM (jup J 164 9 (nI (p1 + 1))) n (p1 + 1) b ∧ jup J 164 9 (nI (p1 + 1)) 164 10 = -1 ∧ ∀ p0, X7_part 164 p0 J = jb2 (X7_number 164 (0 : Int32) (999 : Int32) (jup J 164 9 (nI (p1 + 1)))) (fun (y42 : Int32) (I43 : jI) => k14M (nI c) p0 (nI v1) y42 I43) := fun J hM h10 h688 => by
            refine ⟨⟨by rw [jup_nj _ _ (by omega)]; exact hM.1, by rw [jup_q, ju1_eq], fun i hi => by rw [jup_nj _ _ (by omega)]; exact hM.2.2 i hi⟩, by rw [jup_nj _ _ (by omega)]; exact h10, fun p0 => ?_⟩
            rw [mOK J hM h10 h688 p0]
            unfold partN
            rw [jlet_d, ifc (let119 hc), if_pos e119, peek_M (b := b) (n := n) (pl := p1) (by rw [jup_nj _ _ (by omega)]; exact hM.1) (by rw [jup_q, ju1_eq]) (fun i hi => by rw [jup_nj _ _ (by omega)]; exact hM.2.2 i hi) hn (by omega), ob_some, jlet_d, if_pos (h61.mpr heq)]
            dsimp only
            rw [jlet_d, jup_q, ju1_eq, nI_1, jup_jup]
          rcases hnum2 with ⟨ok2, x1, x2, x3⟩ | ⟨bad2, x1, x2⟩
          · left
            refine ⟨c, v1, (nrd b n 3 (p1 + 1) 0).2, (nrd b n 3 (p1 + 1) 0).1, jup I20 144 k (nI (nrd b n 3 (p1 + 1) 0).2), hl, okb.1, okb.2, d3, by omega, d2, ?_, ?_, ?_, ?_, fun _ => by rw [jup_q, ju1_eq], fun r j x y => by rw [jup_nj _ _ (by omega), F20 r j x y], fun J hM h10 h688 p0 => ?_⟩
            · rw [cC2]
              unfold X5_readValue
              rw [byte_C hT17 hn c2, ob_some, if_pos (h61.mpr heq), hT17.2.1, nI_1, ← hI18, jlet_d, show X5_readNumber 140 (0 : Int32) (999 : Int32) I18 = some (1, I20) from x1, jb2_some, if_neg (by decide), k20, if_pos (llt (30 : Int32) 30 rfl (by omega) (by omega)), if_pos (jin_N (by omega) (by omega)), jlet_d, rT.2.2.2.2.2.2.2, cl_N (by omega), x3, jb2_some, if_neg (by decide)]
            · rw [jup_ne _ _ (by omega)]; exact x2
            · rw [jup_ne _ _ (by omega), s20 142 k (by omega), s18 142 k (by omega)]; exact g142
            · rw [jup_ne _ _ (by omega), s20 143 k (by omega), s18 143 k (by omega)]; exact g143
            · obtain ⟨a1, a2, a3⟩ := mOK2 J hM h10 h688
              rw [a3 p0, show X7_number 164 (0 : Int32) (999 : Int32) (jup J 164 9 (nI (p1 + 1))) = _ from (num_M (lo := 0) (hi := 999) hn (show p1 + 1 ≤ n by omega) (by omega) (by omega) a1 hbb a2).1 ok2, jb2_some, jup_jup, k14_ok (by rw [jup_nj _ _ (by omega)]; exact h10)]
          · right
            refine ⟨p1 + 1, I20, by omega, ?_, x2, F20, fun J hM h10 h688 => ?_⟩
            · rw [cC2]
              unfold X5_readValue
              rw [byte_C hT17 hn c2, ob_some, if_pos (h61.mpr heq), hT17.2.1, nI_1, ← hI18, jlet_d, show X5_readNumber 140 (0 : Int32) (999 : Int32) I18 = some (0, I20) from x1, jb2_some, if_pos rfl, jb2_some, if_pos rfl]
            · obtain ⟨a1, a2, a3⟩ := mOK2 J hM h10 h688
              refine ⟨jup (jup (jup J 164 9 (nI (p1 + 1))) 164 9 (nI (nrd b n 3 (p1 + 1) 0).1)) 164 10 (nI (p1 + 1)), ?_, ?_, ?_⟩
              · rw [a3 0, show X7_number 164 (0 : Int32) (999 : Int32) (jup J 164 9 (nI (p1 + 1))) = _ from (num_M (lo := 0) (hi := 999) hn (show p1 + 1 ≤ n by omega) (by omega) (by omega) a1 hbb a2).2 bad2, jb2_some]
                unfold k14M
                rw [if_pos rfl]
              · rw [jup_q, ju1_eq]
              · exact ((SP.up (Or.inl rfl) _).tr (SP.up (Or.inl rfl) _)).tr (SP.up (Or.inr rfl) _)
        · right
          refine ⟨p1, I17, by omega, ?_, hT17.2.1, F17, fun J hM h10 h688 => ?_⟩
          · rw [cC2]
            unfold X5_readValue
            rw [byte_C hT17 hn c2, ob_some, if_neg (fun z => heq (h61.mp z)), jb2_some, if_pos rfl]
          · rw [mOK J hM h10 h688 0]
            unfold partN
            rw [jlet_d, ifc (let119 hc), if_pos e119, peek_M (b := b) (n := n) (pl := p1) (by rw [jup_nj _ _ (by omega)]; exact hM.1) (by rw [jup_q, ju1_eq]) (fun i hi => by rw [jup_nj _ _ (by omega)]; exact hM.2.2 i hi) hn (by omega), ob_some, jlet_d, if_neg (fun z => heq (h61.mp z))]
            have wr : X7_wrong 164 (jup J 164 9 (nI p1) 164 9) (jup J 164 9 (nI p1)) = some (jup (jup J 164 9 (nI p1)) 164 10 (nI p1)) := by
              unfold X7_wrong
              rw [jup_nj (k := 9) _ _ (show 164 ≠ 164 ∨ 10 ≠ 9 by omega), h10, if_neg (by decide), jlet_d, jup_q, ju1_eq]
            rw [wr, ob_some]
            dsimp only
            rw [jlet_d]
            obtain ⟨v, hv⟩ := num_MX (J := jup (jup (jup J 164 9 (nI p1)) 164 10 (nI p1)) 164 9 (jup (jup J 164 9 (nI p1)) 164 10 (nI p1) 164 9 + 1)) (lo := 0) (hi := 999) (q := p1) (by omega) (by rw [jup_nj _ _ (by omega), jup_q, ju1_eq])
            rw [hv, jb2_some]
            refine ⟨_, rfl, ?_, ?_⟩
            · rw [jup_nj _ _ (by omega), jup_q, ju1_eq]
            · exact ((SP.up (Or.inl rfl) _).tr (SP.up (Or.inr rfl) _)).tr (SP.up (Or.inl rfl) _)
      · rw [if_neg e119] at cC2
        left
        refine ⟨c, v1, 0, p1, I17, hl, okb.1, okb.2, by omega, by omega, c2, cC2, by rw [f17 _ _ (by omega) (by omega)]; exact e2, g142, g143, fun z => absurd z e119, F17, fun J hM h10 h688 p0 => ?_⟩
        rw [mOK J hM h10 h688 p0]
        unfold partN
        rw [jlet_d, ifc (let119 hc), if_neg e119]
        exact k14_ok (y := 0) (by rw [jup_nj _ _ (by omega)]; exact h10) p0
    · right
      refine ⟨pl + 1, I10, by omega, ?_, e2, fun r j x y => by rw [s10 r j (by omega), hS4 r j (by omega)], fun J hM h10 h688 => ?_⟩
      · rw [cC, e1, jb2_some, if_pos rfl]
      · obtain ⟨a1, a2, a3⟩ := mJ4 J hM h10 h688
        rw [a3 0, (num_M hn (show pl + 1 ≤ n by omega) (by omega) (by omega) a1 hbb a2).2 bad, jb2_some, jup_jup, ← hp1, ← hv1]
        obtain ⟨J', t1, t2, t3⟩ := partN_X (b := b) (n := n) hn hc (q := pl + 1) (p1 := p1) (y9 := nI v1) (J := jup (jup J 164 9 (nI p1)) 164 10 (nI (pl + 1))) (by omega) (by rw [jup_q, ju1_eq]) (by rw [jup_nj _ _ (by omega), jup_nj _ _ (by omega)]; exact hM.1) (by rw [jup_nj _ _ (by omega), jup_q, ju1_eq]) (fun i hi => by rw [jup_nj _ _ (by omega), jup_nj _ _ (by omega)]; exact hM.2.2 i hi) (by omega)
        exact ⟨J', t1, t2, ((SP.up (Or.inl rfl) _).tr (SP.up (Or.inr rfl) _)).tr t3⟩
  · right
    have hne : ∀ w, w < 256 → isLet w → ¬ byt b n pl = nI w := fun w hw hl z => by
      unfold byt at z
      by_cases cc : pl < n
      · have := hbb pl cc
        rw [if_pos cc, nI_eq (by omega) (by omega)] at z
        exact hlet ⟨cc, by rw [z]; exact hl⟩
      · rw [if_neg cc] at z
        exact m1_ne (by omega) z.symm
    have n1 : ¬ byt b n pl = (114 : Int32) := hne 114 (by omega) (Or.inl rfl)
    have n2 : ¬ byt b n pl = (119 : Int32) := hne 119 (by omega) (Or.inr (Or.inl rfl))
    have n3 : ¬ byt b n pl = (115 : Int32) := hne 115 (by omega) (Or.inr (Or.inr (Or.inl rfl)))
    have n4 : ¬ byt b n pl = (97 : Int32) := hne 97 (by omega) (Or.inr (Or.inr (Or.inr rfl)))
    refine ⟨pl, I, by omega, ?_, hT.2.1, fun _ _ _ _ => rfl, fun J hM h10 h688 => ⟨jup J 164 10 (nI pl), ?_, by rw [jup_q, ju1_eq], SP.up (Or.inr rfl) _⟩⟩
    · unfold X5_readPart
      rw [byte_C hT hn hpl, ob_some, jlet_d, if_neg n1, if_neg n2, if_neg n3, if_neg n4]
    · rw [part_e, peek_M hM.1 hM.2.1 hM.2.2 hn (by omega), ob_some, jlet_d, if_neg n1, if_neg n2, if_neg n3, if_neg n4, hM.2.1]
      unfold X7_wrong
      rw [h10, if_neg (by decide), jlet_d, ob_some]
end PT
