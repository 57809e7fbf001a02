/-! THE ACCESS is noted: on both sides -/
theorem nI_xor {a b : Nat} : nI a ^^^ nI b = nI (a ^^^ b) := by
  apply Int32.toBitVec_inj.mp
  rw [Int32.toBitVec_xor]
  show BitVec.ofNat 32 a ^^^ BitVec.ofNat 32 b = BitVec.ofNat 32 (a ^^^ b)
  exact (BitVec.ofNat_xor).symm
theorem floorMod_e {a : Nat} (ha : a < 2147483648) : J9_floorMod_7cf53 (nI a) 20 = some (nI (a % 20)) := by
  unfold J9_floorMod_7cf53
  have hx : a ^^^ 20 < 2147483648 := Nat.xor_lt_two_pow (n := 31) ha (by omega)
  have e : (20 : Int32) = nI 20 := rfl
  rw [if_neg (by decide), jlet_d, if_pos (by rw [e, nI_xor]; exact nI_pos' hx), e, jrem_N ha (by omega) (by omega)]
def noteI (o x p : Nat) (w c h : Int32) (I : jI) : jI := jup (jup (jup (jup (jup I (o + 5) x (nI p)) (o + 6) x w) (o + 7) x c) (o + 8) x h) (o + 9) p (I (o + 9) p + 1)
theorem wi20 : ∀ x, x < 20 → X6_isWithin (nI x) 0 19 = some 1 := by decide +kernel
theorem note_eC {o t p : Nat} (ho : OB o) (ht : t < 2147483648) (hp : p < 64) (w c h : Int32) (hw : w = 0 ∨ w = 1) (I : jI) : X1_note (o + 4) (nI t) (nI p) w c h I = some (noteI o (t % 20) p w c h I) := by
  obtain ⟨-, -, -, -, s5, s6, s7, s8, s9, -⟩ := SB_o ho
  have hx : t % 20 < 20 := Nat.mod_lt _ (by omega)
  have hw2 : (if w = 0 then (0 : Int32) else (1 : Int32)) = w := by rcases hw with e | e <;> rw [e] <;> rfl
  unfold X1_note
  rw [floorMod_e ht, ob_some, wi20 _ hx, ob_some, jlet_d, if_neg (by decide), if_pos (jin_N hx (by omega)), jlet_d, jlet_d, if_pos (jin_N hx (by omega)), jlet_d, if_pos (jin_N hx (by omega)), jlet_d, if_pos (jin_N hx (by omega)), jlet_d]
  dsimp only
  rw [isPage_e hp, ob_some, if_neg (by decide), if_pos (jin_N hp (by omega)), if_pos (jin_N hp (by omega)), jlet_d, s5, s6, s7, s8, s9, cl_N (by omega), cl_N (by omega), hw2]
  unfold noteI
  rw [jup_ne _ _ (show o + 9 ≠ o + 8 by omega), jup_ne _ _ (show o + 9 ≠ o + 7 by omega), jup_ne _ _ (show o + 9 ≠ o + 6 by omega), jup_ne _ _ (show o + 9 ≠ o + 5 by omega)]
/-- the model moves its notes up -/
def shG (m : Mn) (i f : Nat) : Mn := fun w => if (704 + 4 * i ≤ w ∧ w < 704 + 4 * i + f) ∨ (704 + 4 * (i + 1) ≤ w ∧ w < 784) then m (w - 4) else m w
theorem shG_s {m : Mn} {i f : Nat} (hi : 1 ≤ i ∧ i ≤ 19) (hf : f < 4) : ju1 (shG m i f) (704 + 4 * i + f) (shG m i f (704 + 4 * (i - 1) + f)) = shG m i (f + 1) := by
  funext w
  by_cases e : w = 704 + 4 * i + f
  · subst e
    rw [ju1_eq]
    unfold shG
    rw [if_neg (by omega), if_pos (by omega), show 704 + 4 * i + f - 4 = 704 + 4 * (i - 1) + f by omega]
  · rw [ju1_ne _ _ e]
    unfold shG
    by_cases c : (704 + 4 * i ≤ w ∧ w < 704 + 4 * i + f) ∨ (704 + 4 * (i + 1) ≤ w ∧ w < 784)
    · rw [if_pos c, if_pos (by omega)]
    · rw [if_neg c, if_neg (by omega)]
theorem shG_n {m : Mn} {i : Nat} (hi : 1 ≤ i ∧ i ≤ 19) : shG m i 4 = shG m (i - 1) 0 := by
  funext w
  unfold shG
  by_cases c : (704 + 4 * i ≤ w ∧ w < 704 + 4 * i + 4) ∨ (704 + 4 * (i + 1) ≤ w ∧ w < 784)
  · rw [if_pos c, if_pos (by omega)]
  · rw [if_neg c, if_neg (by omega)]
theorem shG_0 {m : Mn} : shG m 19 0 = m := by
  funext w
  unfold shG
  rw [if_neg (by omega)]
theorem sh_in {m : Mn} {i : Nat} (hi : 1 ≤ i ∧ i ≤ 19) : ∀ d n f, f + d = 4 → d < n → ∀ J : jI, J 165 = shG m i f → ∀ k, jfx (X7_follows_F1 164 (nI i) k) (fun _ _ => none) n (nI f) J = k (jrow J 165 (shG m i 4)) := by
  intro d
  induction d with
  | zero =>
    intro n f h1 h2 J hJ k
    obtain ⟨n, rfl⟩ : ∃ q, n = q + 1 := ⟨n - 1, by omega⟩
    rw [jfx_s, X7_follows_F1, if_pos (lle (4 : Int32) 4 rfl (by omega) (by omega)), show 4 = f by omega, ← hJ, jrow_id]
  | succ d ih =>
    intro n f h1 h2 J hJ k
    obtain ⟨n, rfl⟩ : ∃ q, n = q + 1 := ⟨n - 1, by omega⟩
    have a1 : (((704 : Int32) + ((4 : Int32) * (nI i - (1 : Int32)))) + nI f) = nI (704 + 4 * (i - 1) + f) := by
      obtain ⟨i', rfl⟩ : ∃ q, i = q + 1 := ⟨i - 1, by omega⟩
      rw [nI_pred, show (4 : Int32) = nI 4 from rfl, pk_mul, show (704 : Int32) = nI 704 from rfl, nI_add, nI_add]
      rfl
    have a2 : (((704 : Int32) + ((4 : Int32) * nI i)) + nI f) = nI (704 + 4 * i + f) := by
      rw [show (4 : Int32) = nI 4 from rfl, pk_mul, show (704 : Int32) = nI 704 from rfl, nI_add, nI_add]
    rw [jfx_s, X7_follows_F1, if_neg (lge (4 : Int32) 4 rfl (by omega) (by omega)), a1, a2, if_pos (jin_N (by omega) (by omega)), if_pos (jin_N (by omega) (by omega)), jlet_d, rM0, cl_N (by omega), cl_N (by omega), hJ, jup_def, hJ, shG_s hi (by omega), show nI f + (1 : Int32) = nI (f + 1) from nI_1 _]
    rw [ih n (f + 1) (by omega) (by omega) _ (jrow_self _ _ _) k, jrow_jrow]
theorem sh_out {m : Mn} : ∀ d n i, i = d → d ≤ 19 → d < n → ∀ J : jI, J 165 = shG m i 0 → ∀ k, jfx (X7_follows_F2 164 k) (fun _ _ => none) n (nI i) J = k (jrow J 165 (shG m 0 0)) := by
  intro d
  induction d with
  | zero =>
    intro n i h1 h2 h3 J hJ k
    obtain ⟨n, rfl⟩ : ∃ q, n = q + 1 := ⟨n - 1, by omega⟩
    subst h1
    rw [jfx_s, X7_follows_F2, if_pos (by decide), ← hJ, jrow_id]
  | succ d ih =>
    intro n i h1 h2 h3 J hJ k
    obtain ⟨n, rfl⟩ : ∃ q, n = q + 1 := ⟨n - 1, by omega⟩
    subst h1
    rw [jfx_s, X7_follows_F2, if_neg (by rw [le0_N (by omega)]; omega), jlet_d]
    refine (sh_in (m := m) (i := d + 1) (by omega) 4 1000 0 (by omega) (by omega) J hJ _).trans ?_
    rw [pk_m1, shG_n (by omega)]
    rw [ih n d rfl (by omega) (by omega) _ (by rw [jrow_self]; rfl) k, jrow_jrow]
def noteM (m : Mn) (p : Nat) (w c h x : Int32) : Mn := ju1 (ju1 (ju1 (ju1 (ju1 (shG m 0 0) 704 (nI p)) 705 w) 706 c) 707 h) 702 x
theorem min20 : ∀ t, t ≤ 20 → jmin (20 : Int32) (nI t + 1) = nI (min (t + 1) 20) := by decide +kernel
theorem follow_end {T p : Nat} {m : Mn} (J : jI) (w c h : Int32) (hJ : J 165 = m) (hc : J 164 5 = c) (hh : J 164 6 = h) (h2 : m 702 = nI (min T 20)) : jfx (X7_follows_F2 164 (fun (I6 : jI) =>
if jin (704 : Int32) 784 then jlet (jup I6 (rfC 164 0) ((704 : Int32)).toNatClampNeg (nI p)) (fun (I9 : jI) =>
if jin (705 : Int32) 784 then jlet (jup I9 (rfC 164 0) ((705 : Int32)).toNatClampNeg w) (fun (I11 : jI) =>
if jin (706 : Int32) 784 then jlet (jup I11 (rfC 164 0) ((706 : Int32)).toNatClampNeg (I11 164 5)) (fun (I13 : jI) =>
if jin (707 : Int32) 784 then jlet (jup I13 (rfC 164 0) ((707 : Int32)).toNatClampNeg (I13 164 6)) (fun (I15 : jI) =>
if jin (702 : Int32) 784 then (
if jin (702 : Int32) 784 then jlet (jup I15 (rfC 164 0) ((702 : Int32)).toNatClampNeg (jmin (20 : Int32) ((I15 (rfC 164 0) ((702 : Int32)).toNatClampNeg) + (1 : Int32)))) (fun (I18 : jI) =>
some I18) else none) else none) else none) else none) else none) else none)) (fun _ _ => none) 1000 (19 : Int32) J = some (jrow J 165 (noteM m p w c h (nI (min (T + 1) 20)))) := by
  have h0 := sh_out (m := m) 19 1000 19 rfl (by omega) (by omega) J (by rw [shG_0]; exact hJ)
  rw [show (19 : Int32) = nI 19 from rfl, h0]
  rw [if_pos (by decide), jlet_d, if_pos (by decide), jlet_d, if_pos (by decide), jlet_d, if_pos (by decide), jlet_d, if_pos (by decide), if_pos (by decide), jlet_d, rM0, show ((704 : Int32)).toNatClampNeg = 704 from rfl, show ((705 : Int32)).toNatClampNeg = 705 from rfl, show ((706 : Int32)).toNatClampNeg = 706 from rfl, show ((707 : Int32)).toNatClampNeg = 707 from rfl, show ((702 : Int32)).toNatClampNeg = 702 from rfl]
  have hK := Nf_of (J := jrow J 165 (shG m 0 0)) (jrow_self _ _ _) (show _ = c by rw [jrow_ne _ _ (by omega)]; exact hc) (show _ = h by rw [jrow_ne _ _ (by omega)]; exact hh)
  rw [hK, Nf_jrow, Nf_up, Nf_up, Nf_5, Nf_up, Nf_6, Nf_up, Nf_165]
  have e2 : ju1 (ju1 (ju1 (ju1 (shG m 0 0) 704 (nI p)) 705 w) 706 c) 707 h 702 = nI (min T 20) := by
    rw [ju1_ne _ _ (by omega), ju1_ne _ _ (by omega), ju1_ne _ _ (by omega), ju1_ne _ _ (by omega)]
    show (if _ then _ else _) = _
    rw [if_neg (by omega)]
    exact h2
  rw [e2, min20 _ (by omega), show min (min T 20 + 1) 20 = min (T + 1) 20 by omega, Nf_up]
  unfold noteM
  rw [jN, hc, hh]
theorem HX.note {o T p : Nat} {I : jI} {m : Mn} {w c h x : Int32} (hX : HX o T I m) : HX o (T + 1) (noteI o ((T + 1) % 20) p w c h I) (noteM m p w c h x) := by
  intro i hi
  have eI : ∀ r k, (r = o + 5 ∨ r = o + 6 ∨ r = o + 7 ∨ r = o + 8) → k ≠ (T + 1) % 20 → noteI o ((T + 1) % 20) p w c h I r k = I r k := fun r k hr hk => by
    unfold noteI
    rw [jup_nj _ _ (by omega), jup_nj _ _ (Or.inr hk), jup_nj _ _ (Or.inr hk), jup_nj _ _ (Or.inr hk), jup_nj _ _ (Or.inr hk)]
  by_cases e : i = 0
  · subst e
    rw [show (T + 1 + 20 - 0) % 20 = (T + 1) % 20 by omega]
    unfold noteI noteM
    refine ⟨?_, ?_, ?_, ?_⟩ <;> simp (disch := omega) only [jup_q, jup_ne, ju1_ne, ju1_eq]
  · obtain ⟨h1, h2, h3, h4⟩ := hX (i - 1) (by omega)
    have ex : (T + 1 + 20 - i) % 20 = (T + 20 - (i - 1)) % 20 := by omega
    have hne : (T + 20 - (i - 1)) % 20 ≠ (T + 1) % 20 := by omega
    have em : ∀ f, f < 4 → noteM m p w c h x (704 + f + 4 * i) = m (704 + f + 4 * (i - 1)) := fun f hf => by
      unfold noteM
      rw [ju1_ne _ _ (by omega), ju1_ne _ _ (by omega), ju1_ne _ _ (by omega), ju1_ne _ _ (by omega), ju1_ne _ _ (by omega)]
      unfold shG
      rw [if_pos (by omega), show 704 + f + 4 * i - 4 = 704 + f + 4 * (i - 1) by omega]
    rw [ex, eI _ _ (by omega) hne, eI _ _ (by omega) hne, eI _ _ (by omega) hne, eI _ _ (by omega) hne]
    exact ⟨h1.trans (em 0 (by omega)).symm, h2.trans (em 1 (by omega)).symm, h3.trans (em 2 (by omega)).symm, h4.trans (em 3 (by omega)).symm⟩
