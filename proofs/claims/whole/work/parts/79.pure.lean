/-! THE LAW holds of every script -/
set_option maxRecDepth 40000 in
set_option maxHeartbeats 4000000 in
theorem law_step {len n v B cnt mode T : Nat} {xs : Nat → Int32} {S : Nat → Nat} {I : jI} {L : jL} (hv : v + 6 ≤ len) (hlen : len ≤ 3072) (hB : B + 32768 < 1073741824) (g : GG B cnt mode T S I L) (k : NXT len xs n v B) : jfx (L_law_F1 len xs) (fun _ _ _ => none) (n + 1) (nI v) I L = some () := by
  rw [jfx_s, L_law_F1]
  have hc : ¬ ((Int32.ofNat len) - (6 : Int32)) < nI v := by
    rw [show (Int32.ofNat len) - (6 : Int32) = nI (len - 6) from subN (a := len) (b := 6) (by omega)]
    exact nI_nlt (by omega) (by omega)
  rw [if_neg hc, if_pos (jin_N (n := v) (N := len) (by omega) (by omega)), jlet_d]
  generalize (xs (nI v).toNatClampNeg) &&& (63 : Int32) = op
  by_cases h0 : op = (0 : Int32)
  · rw [if_pos h0]
    exact b_row hv hlen hB g k
  rw [if_neg h0]
  by_cases h1 : op = (1 : Int32)
  · rw [if_pos h1]
    exact b_set hv hlen hB g k
  rw [if_neg h1]
  by_cases h2 : op = (2 : Int32)
  · rw [if_pos h2]
    exact b_copy hv hlen hB g k
  rw [if_neg h2]
  by_cases h3 : op = (3 : Int32)
  · rw [if_pos h3]
    exact b_element hv hlen hB g k
  rw [if_neg h3]
  by_cases h4 : op = (4 : Int32)
  · rw [if_pos h4]
    exact b_holds hv hlen hB g k
  rw [if_neg h4]
  by_cases h5 : op = (5 : Int32)
  · rw [if_pos h5]
    exact b_show hv hlen hB g k
  rw [if_neg h5]
  by_cases h6 : op = (6 : Int32)
  · rw [if_pos h6]
    exact b_says hv hlen hB g k
  rw [if_neg h6]
  by_cases h7 : op = (7 : Int32)
  · rw [if_pos h7]
    exact b_feed hv hlen hB g k
  rw [if_neg h7]
  by_cases h8 : op = (8 : Int32)
  · rw [if_pos h8]
    exact b_wipe hv hlen hB g k
  rw [if_neg h8]
  by_cases h9 : op = (9 : Int32)
  · rw [if_pos h9]
    exact b_traffic hv hlen hB g k
  rw [if_neg h9]
  by_cases h10 : op = (10 : Int32)
  · rw [if_pos h10]
    exact b_level hv hlen hB g k
  rw [if_neg h10]
  by_cases h11 : op = (11 : Int32)
  · rw [if_pos h11]
    exact b_drop hv hlen hB g k
  rw [if_neg h11]
  by_cases h12 : op = (12 : Int32)
  · rw [if_pos h12]
    exact b_mode hv hlen hB g k
  rw [if_neg h12]
  by_cases h13 : op = (13 : Int32)
  · rw [if_pos h13]
    exact b_tell hv hlen hB g k
  rw [if_neg h13]
  by_cases h14 : op = (14 : Int32)
  · rw [if_pos h14]
    exact b_read hv hlen hB g k
  rw [if_neg h14]
  by_cases h15 : op = (15 : Int32)
  · rw [if_pos h15]
    exact b_write hv hlen hB g k
  rw [if_neg h15]
  by_cases h16 : op = (16 : Int32)
  · rw [if_pos h16]
    exact b_sweep hv hlen hB g k
  rw [if_neg h16]
  by_cases h17 : op = (17 : Int32)
  · rw [if_pos h17]
    exact b_clear hv hlen hB g k
  rw [if_neg h17]
  by_cases h18 : op = (18 : Int32)
  · rw [if_pos h18]
    exact b_levelOf hv hlen hB g k
  rw [if_neg h18]
  by_cases h19 : op = (19 : Int32)
  · rw [if_pos h19]
    exact b_slot hv hlen hB g k
  rw [if_neg h19]
  by_cases h20 : op = (20 : Int32)
  · rw [if_pos h20]
    exact b_value hv hlen hB g k
  rw [if_neg h20]
  by_cases h21 : op = (21 : Int32)
  · rw [if_pos h21]
    exact b_where hv hlen hB g k
  rw [if_neg h21]
  by_cases h22 : op = (22 : Int32)
  · rw [if_pos h22]
    exact b_pages hv hlen hB g k
  rw [if_neg h22]
  by_cases h23 : op = (23 : Int32)
  · rw [if_pos h23]
    exact b_differ hv hlen hB g k
  rw [if_neg h23]
  by_cases h24 : op = (24 : Int32)
  · rw [if_pos h24]
    exact b_kept hv hlen hB g k
  rw [if_neg h24]
  by_cases h25 : op = (25 : Int32)
  · rw [if_pos h25]
    exact b_would hv hlen hB g k
  rw [if_neg h25]
  by_cases h26 : op = (26 : Int32)
  · rw [if_pos h26]
    exact b_plan hv hlen hB g k
  rw [if_neg h26]
  by_cases h27 : op = (27 : Int32)
  · rw [if_pos h27]
    exact b_rule hv hlen hB g k
  rw [if_neg h27]
  by_cases h28 : op = (28 : Int32)
  · rw [if_pos h28]
    exact b_size hv hlen hB g k
  rw [if_neg h28]
  by_cases h29 : op = (29 : Int32)
  · rw [if_pos h29]
    exact b_modes hv hlen hB g k
  rw [if_neg h29]
  by_cases h30 : op = (30 : Int32)
  · rw [if_pos h30]
    exact b_foresight hv hlen hB g k
  rw [if_neg h30]
  by_cases h31 : op = (31 : Int32)
  · rw [if_pos h31]
    exact b_reuse hv hlen hB g k
  rw [if_neg h31]
  by_cases h32 : op = (32 : Int32)
  · rw [if_pos h32]
    exact b_rowOf hv hlen hB g k
  rw [if_neg h32]
  by_cases h33 : op = (33 : Int32)
  · rw [if_pos h33]
    exact b_judge hv hlen hB g k
  rw [if_neg h33]
  by_cases h34 : op = (34 : Int32)
  · rw [if_pos h34]
    exact b_past hv hlen hB g k
  rw [if_neg h34]
  by_cases h35 : op = (35 : Int32)
  · rw [if_pos h35]
    exact b_often hv hlen hB g k
  rw [if_neg h35]
  by_cases h36 : op = (36 : Int32)
  · rw [if_pos h36]
    exact b_days hv hlen hB g k
  rw [if_neg h36]
  by_cases h37 : op = (37 : Int32)
  · rw [if_pos h37]
    exact b_seed hv hlen hB g k
  rw [if_neg h37]
  by_cases h38 : op = (38 : Int32)
  · rw [if_pos h38]
    exact b_image hv hlen hB g k
  rw [if_neg h38]
  by_cases h39 : op = (39 : Int32)
  · rw [if_pos h39]
    exact b_back hv hlen hB g k
  rw [if_neg h39]
  by_cases h40 : op = (40 : Int32)
  · rw [if_pos h40]
    exact b_status hv hlen hB g k
  rw [if_neg h40]
  exact k _ _ _ _ _ _ (g.mono (by omega))
theorem law_all {len : Nat} {xs : Nat → Int32} (hlen : len ≤ 3072) : ∀ d n c (B cnt mode T : Nat) (S : Nat → Nat) (I : jI) (L : jL), 6 * c + 6 * d + 6 > len → d < n → 6 * c ≤ len → B + 32768 * (d + 1) < 1073741824 → GG B cnt mode T S I L → jfx (L_law_F1 len xs) (fun _ _ _ => none) n (nI (6 * c)) I L = some () := by
  intro d
  induction d with
  | zero =>
    intro n c B cnt mode T S I L h1 h2 h3 h4 g
    obtain ⟨n, rfl⟩ : ∃ q, n = q + 1 := ⟨n - 1, by omega⟩
    rw [jfx_s, L_law_F1]
    have hc : ((Int32.ofNat len) - (6 : Int32)) < nI (6 * c) := by
      rw [Int32.lt_iff_toInt_lt, nI_toInt (by omega), Int32.toInt_sub, show (Int32.ofNat len).toInt = (len : Int) from nI_toInt (n := len) (by omega), show (6 : Int32).toInt = 6 from rfl]
      unfold Int.bmod
      simp only [Int32.size]
      split <;> omega
    rw [if_pos hc]
  | succ d ih =>
    intro n c B cnt mode T S I L h1 h2 h3 h4 g
    have h5 : B + 32768 < 1073741824 ∧ B + 32768 + 32768 * (d + 1) < 1073741824 := by
      rw [Nat.mul_succ] at h4
      generalize 32768 * (d + 1) = W at h4 ⊢
      omega
    by_cases hv : 6 * c + 6 ≤ len
    · obtain ⟨n, rfl⟩ : ∃ q, n = q + 1 := ⟨n - 1, by omega⟩
      refine law_step hv hlen h5.1 g (fun I' L' cnt' mode' T' S' g' => ?_)
      rw [show nI (6 * c) + (6 : Int32) = nI (6 * (c + 1)) from nI_add (6 * c) 6]
      exact ih n (c + 1) (B + 32768) cnt' mode' T' S' I' L' (by omega) (by omega) (by omega) h5.2 g'
    · obtain ⟨n, rfl⟩ : ∃ q, n = q + 1 := ⟨n - 1, by omega⟩
      rw [jfx_s, L_law_F1]
      have hc : ((Int32.ofNat len) - (6 : Int32)) < nI (6 * c) := by
        rw [Int32.lt_iff_toInt_lt, nI_toInt (by omega), Int32.toInt_sub, show (Int32.ofNat len).toInt = (len : Int) from nI_toInt (n := len) (by omega), show (6 : Int32).toInt = 6 from rfl]
        unfold Int.bmod
        simp only [Int32.size]
        split <;> omega
      rw [if_pos hc]
theorem pure_law : ∀ (len : Nat) (xs : Nat → Int32), len ≤ 3072 → L_law0 len xs I02 L00 = some () := fun len xs hlen =>
  law_all hlen 512 1000 0 1 0 0 0 (fun _ => 1) I02 L00 (by omega) (by omega) (by omega) (by omega) GG_init
