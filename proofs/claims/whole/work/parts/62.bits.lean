/-! BITS that are counted -/
def cntB (P : Nat → Bool) : Nat → Nat
  | 0 => 0
  | n + 1 => cntB P n + (if P n = true then 1 else 0)
theorem cntB_s {P : Nat → Bool} {n : Nat} : cntB P (n + 1) = cntB P n + (if P n = true then 1 else 0) := rfl
theorem cntB_congr {P Q : Nat → Bool} : ∀ {n : Nat}, (∀ i, i < n → P i = Q i) → cntB P n = cntB Q n
  | 0, _ => rfl
  | n + 1, h => by rw [cntB_s, cntB_s, cntB_congr (fun i hi => h i (by omega)), h n (by omega)]
theorem cntB_le {P : Nat → Bool} : ∀ {n : Nat}, cntB P n ≤ n
  | 0 => Nat.le_refl _
  | n + 1 => by
    have := cntB_le (P := P) (n := n)
    rw [cntB_s]; split <;> omega
theorem cntB_sh {P : Nat → Bool} : ∀ {n : Nat}, cntB P (n + 1) = (if P 0 = true then 1 else 0) + cntB (fun i => P (i + 1)) n
  | 0 => by simp [cntB]
  | n + 1 => by rw [cntB_s, cntB_sh (n := n), cntB_s]; omega
def bsm : Nat → Nat → Nat
  | 0, _ => 0
  | n + 1, X => X % 2 + bsm n (X / 2)
theorem bsm_cnt : ∀ {n X : Nat}, bsm n X = cntB (fun i => X.testBit i) n
  | 0, _ => rfl
  | n + 1, X => by
    unfold bsm
    rw [bsm_cnt, cntB_sh, Nat.testBit_zero]
    congr 1
    · by_cases h : X % 2 = 1
      · rw [h, if_pos (by simp)]
      · rw [if_neg (by simpa using h)]; omega
    · exact cntB_congr (fun i _ => by rw [Nat.testBit_succ])
def mapB (f : Nat → Nat) : Nat → Nat → Nat
  | 0, _ => 0
  | n + 1, x => 256 * mapB f n (x / 256) + f (x % 256)
theorem and_split (a b c d : Nat) (hb : b < 256) (hd : d < 256) : (256 * a + b) &&& (256 * c + d) = 256 * (a &&& c) + (b &&& d) := by
  have h1 : (256 * a + b) &&& (256 * c + d) = 256 * (((256 * a + b) &&& (256 * c + d)) / 256) + ((256 * a + b) &&& (256 * c + d)) % 256 := by omega
  rw [h1, show 256 = 2 ^ 8 from rfl, Nat.and_div_two_pow, Nat.and_mod_two_pow]
  rw [show (2 ^ 8 * a + b) / 2 ^ 8 = a by omega, show (2 ^ 8 * c + d) / 2 ^ 8 = c by omega, show (2 ^ 8 * a + b) % 2 ^ 8 = b by omega, show (2 ^ 8 * c + d) % 2 ^ 8 = d by omega]
def rep (c : Nat) : Nat → Nat
  | 0 => 0
  | n + 1 => 256 * rep c n + c
def f1 (l : Nat) : Nat := l - ((l / 2) &&& 85)
def f2 (l : Nat) : Nat := (l &&& 51) + ((l / 4) &&& 51)
def f3 (l : Nat) : Nat := (l + l / 16) &&& 15
theorem fin1 : ∀ l, l < 256 → ∀ e, e < 2 → (128 * e + l / 2) &&& 85 = (l / 2) &&& 85 ∧ f1 l < 256 ∧ (l / 2) &&& 85 ≤ l := by decide +kernel
theorem fin2 : ∀ l, l < 256 → ∀ e, e < 4 → (64 * e + f1 l / 4) &&& 51 = (f1 l / 4) &&& 51 ∧ f2 (f1 l) < 256 ∧ f2 (f1 l) % 16 ≤ 4 ∧ f2 (f1 l) ≤ 68 := by decide +kernel
theorem fin3 : ∀ l, l < 256 → ∀ e, e < 5 → (16 * e + (f2 (f1 l) + f2 (f1 l) / 16)) &&& 15 = f3 (f2 (f1 l)) ∧ f3 (f2 (f1 l)) = bsm 8 l ∧ bsm 8 l ≤ 8 := by decide +kernel
theorem stp1 : ∀ n x, x < 256 ^ n → x - ((x / 2) &&& rep 85 n) = mapB f1 n x
  | 0, x, h => by
    rw [show x = 0 by simpa using h]; rfl
  | n + 1, x, h => by
    have hl : x % 256 < 256 := Nat.mod_lt _ (by omega)
    have ih := stp1 n (x / 256) (by rw [Nat.pow_succ] at h; omega)
    have e1 : x / 2 = 256 * (x / 256 / 2) + (128 * (x / 256 % 2) + x % 256 / 2) := by omega
    obtain ⟨g1, g2, g3⟩ := fin1 (x % 256) hl (x / 256 % 2) (by omega)
    have hle : (x / 256 / 2) &&& rep 85 n ≤ x / 256 / 2 := Nat.and_le_left
    unfold rep mapB
    rw [e1, and_split _ _ _ _ (by omega) (by omega), g1, ← ih]
    unfold f1
    omega
theorem stp2 : ∀ n x, (mapB f1 n x &&& rep 51 n) + ((mapB f1 n x / 4) &&& rep 51 n) = mapB (fun l => f2 (f1 l)) n x
  | 0, x => by simp [mapB, rep]
  | n + 1, x => by
    have hl : x % 256 < 256 := Nat.mod_lt _ (by omega)
    have ih := stp2 n (x / 256)
    unfold mapB rep
    obtain ⟨h, hh⟩ : ∃ h, h = mapB f1 n (x / 256) := ⟨_, rfl⟩
    rw [← hh] at ih ⊢
    obtain ⟨-, k1, -⟩ := fin1 (x % 256) hl 0 (by omega)
    obtain ⟨g1, g2, -⟩ := fin2 (x % 256) hl (h % 4) (by omega)
    have e1 : (256 * h + f1 (x % 256)) / 4 = 256 * (h / 4) + (64 * (h % 4) + f1 (x % 256) / 4) := by omega
    rw [e1, and_split _ _ _ _ (by omega) (by omega), and_split _ _ _ _ (by omega) (by omega), g1, ← ih]
    show _ = _ + f2 (f1 (x % 256))
    unfold f2
    omega
theorem map_16 : ∀ n x, mapB (fun l => f2 (f1 l)) n x % 16 ≤ 4
  | 0, x => by simp [mapB]
  | n + 1, x => by
    obtain ⟨-, -, g, -⟩ := fin2 (x % 256) (Nat.mod_lt _ (by omega)) 0 (by omega)
    unfold mapB
    show (256 * _ + f2 (f1 (x % 256))) % 16 ≤ 4
    omega
theorem stp3 : ∀ n x, (mapB (fun l => f2 (f1 l)) n x + mapB (fun l => f2 (f1 l)) n x / 16) &&& rep 15 n = mapB (fun l => bsm 8 l) n x
  | 0, x => by simp [mapB, rep]
  | n + 1, x => by
    have hl : x % 256 < 256 := Nat.mod_lt _ (by omega)
    have ih := stp3 n (x / 256)
    have h16 := map_16 n (x / 256)
    unfold mapB rep
    obtain ⟨h, hh⟩ : ∃ h, h = mapB (fun l => f2 (f1 l)) n (x / 256) := ⟨_, rfl⟩
    rw [← hh] at ih h16 ⊢
    obtain ⟨-, k1, -, k2⟩ := fin2 (x % 256) hl 0 (by omega)
    obtain ⟨g1, g2, -⟩ := fin3 (x % 256) hl (h % 16) (by omega)
    show (256 * h + f2 (f1 (x % 256)) + (256 * h + f2 (f1 (x % 256))) / 16) &&& _ = _ + bsm 8 (x % 256)
    have e1 : 256 * h + f2 (f1 (x % 256)) + (256 * h + f2 (f1 (x % 256))) / 16 = 256 * (h + h / 16) + (16 * (h % 16) + (f2 (f1 (x % 256)) + f2 (f1 (x % 256)) / 16)) := by omega
    rw [e1, and_split _ _ _ _ (by omega) (by omega), g1, g2, ih]
theorem bsm8 (X : Nat) : bsm 8 X = bsm 8 (X % 256) := by
  unfold bsm bsm bsm bsm bsm bsm bsm bsm bsm
  omega
theorem bsm_add : ∀ a n X, bsm (a + n) X = bsm a X + bsm n (X / 2 ^ a)
  | 0, n, X => by simp [bsm]
  | a + 1, n, X => by
    rw [show a + 1 + n = (a + n) + 1 by omega]
    unfold bsm
    rw [bsm_add a n, Nat.div_div_eq_div_mul, show 2 * 2 ^ a = 2 ^ (a + 1) by rw [Nat.pow_succ]; omega]
    cases n <;> simp only [bsm] <;> omega
theorem bsm64 (X : Nat) : bsm 64 X = bsm 8 (X % 256) + bsm 8 (X / 256 % 256) + bsm 8 (X / 65536 % 256) + bsm 8 (X / 16777216 % 256) + bsm 8 (X / 4294967296 % 256) + bsm 8 (X / 1099511627776 % 256) + bsm 8 (X / 281474976710656 % 256) + bsm 8 (X / 72057594037927936 % 256) := by
  have h := fun n X => bsm_add 8 n X
  rw [show (64 : Nat) = 8 + 56 from rfl, h 56, show (56 : Nat) = 8 + 48 from rfl, h 48, show (48 : Nat) = 8 + 40 from rfl, h 40, show (40 : Nat) = 8 + 32 from rfl, h 32, show (32 : Nat) = 8 + 24 from rfl, h 24, show (24 : Nat) = 8 + 16 from rfl, h 16, show (16 : Nat) = 8 + 8 from rfl, h 8]
  simp only [Nat.div_div_eq_div_mul]
  rw [bsm8 X, bsm8 (X / 2 ^ 8), bsm8 (X / (2 ^ 8 * 2 ^ 8)), bsm8 (X / (2 ^ 8 * 2 ^ 8 * 2 ^ 8)), bsm8 (X / (2 ^ 8 * 2 ^ 8 * 2 ^ 8 * 2 ^ 8)), bsm8 (X / (2 ^ 8 * 2 ^ 8 * 2 ^ 8 * 2 ^ 8 * 2 ^ 8)), bsm8 (X / (2 ^ 8 * 2 ^ 8 * 2 ^ 8 * 2 ^ 8 * 2 ^ 8 * 2 ^ 8)), bsm8 (X / (2 ^ 8 * 2 ^ 8 * 2 ^ 8 * 2 ^ 8 * 2 ^ 8 * 2 ^ 8 * 2 ^ 8))]
  simp only [Nat.reducePow, Nat.reduceMul, Nat.add_assoc]
/-! a long by its bits -/
def nz (v : Int64) : Nat := v.toBitVec.toNat
theorem nz_lt (v : Int64) : nz v < 18446744073709551616 := v.toBitVec.isLt
theorem nz_and (a b : Int64) : nz (a &&& b) = nz a &&& nz b := by
  unfold nz
  rw [Int64.toBitVec_and, BitVec.toNat_and]
theorem nz_sub {a b : Int64} (h : nz b ≤ nz a) : nz (a - b) = nz a - nz b := by
  have h1 := nz_lt a
  have h2 := nz_lt b
  unfold nz at *
  rw [Int64.toBitVec_sub, BitVec.toNat_sub]
  omega
theorem nz_add {a b : Int64} (h : nz a + nz b < 18446744073709551616) : nz (a + b) = nz a + nz b := by
  unfold nz at *
  rw [Int64.toBitVec_add, BitVec.toNat_add]
  omega
theorem nz_shr (x : Int64) (k : Int32) (n : Nat) (hk : ((k.toInt64.toUInt64 &&& Int64.toUInt64 63)).toNat = n) (hn : n < 64) : nz (jlushr x k) = nz x / 2 ^ n := by
  unfold nz jlushr
  show (x.toUInt64 >>> (k.toInt64.toUInt64 &&& Int64.toUInt64 63)).toNat = _
  rw [UInt64.toNat_shiftRight, hk, Nat.mod_eq_of_lt hn, Nat.shiftRight_eq_div_pow]
  rfl
theorem b2map : ∀ n x, mapB (fun l => f2 (f1 l)) n x ≤ rep 68 n
  | 0, x => by simp [mapB]
  | n + 1, x => by
    have := b2map n (x / 256)
    obtain ⟨-, -, -, g⟩ := fin2 (x % 256) (Nat.mod_lt _ (by omega)) 0 (by omega)
    unfold mapB rep
    show 256 * _ + f2 (f1 (x % 256)) ≤ _
    omega
theorem s1 (x : Int64) : nz (jlushr x 1) = nz x / 2 := nz_shr x 1 1 (by decide) (by omega)
theorem s2 (x : Int64) : nz (jlushr x 2) = nz x / 4 := nz_shr x 2 2 (by decide) (by omega)
theorem s4 (x : Int64) : nz (jlushr x 4) = nz x / 16 := nz_shr x 4 4 (by decide) (by omega)
theorem s8 (x : Int64) : nz (jlushr x 8) = nz x / 256 := nz_shr x 8 8 (by decide) (by omega)
theorem s16 (x : Int64) : nz (jlushr x 16) = nz x / 65536 := nz_shr x 16 16 (by decide) (by omega)
theorem s32 (x : Int64) : nz (jlushr x 32) = nz x / 4294967296 := nz_shr x 32 32 (by decide) (by omega)
def bcT (y3 : Int64) : Option Int32 :=
jlet ((y3 + (jlushr y3 (8 : Int32)))) (fun (y4 : Int64) =>
jlet ((y4 + (jlushr y4 (16 : Int32)))) (fun (y5 : Int64) =>
jlet ((y5 + (jlushr y5 (32 : Int32)))) (fun (y6 : Int64) =>
some ((y6).toInt32 &&& (127 : Int32)))))
def bcS (y2 : Int64) : Option Int32 := bcT (((y2 + (jlushr y2 (4 : Int32))) &&& (1085102592571150095 : Int64)))
def bcR (y1 : Int64) : Option Int32 := bcS (((y1 &&& (3689348814741910323 : Int64)) + ((jlushr y1 (2 : Int32)) &&& (3689348814741910323 : Int64))))
theorem bc_e (v : Int64) : J13_bitCount_95d88 v = bcR (v - ((jlushr v (1 : Int32)) &&& (6148914691236517205 : Int64))) := by
  unfold J13_bitCount_95d88
  rw [jlet_d, jlet_d, jlet_d]
  unfold bcR bcS bcT
  exact Eq.refl _
theorem bc1 (v : Int64) : nz (v - ((jlushr v (1 : Int32)) &&& (6148914691236517205 : Int64))) = mapB f1 8 (nz v) := by
  have hv := nz_lt v
  have k5 : nz 6148914691236517205 = rep 85 8 := by decide
  have hle : (nz v / 2) &&& rep 85 8 ≤ nz v / 2 := Nat.and_le_left
  rw [nz_sub (by rw [nz_and, s1, k5]; omega), nz_and, s1, k5]
  exact stp1 8 (nz v) (by omega)
theorem bc2 {X : Nat} {y : Int64} (h : nz y = mapB f1 8 X) : nz ((y &&& (3689348814741910323 : Int64)) + ((jlushr y (2 : Int32)) &&& (3689348814741910323 : Int64))) = mapB (fun l => f2 (f1 l)) 8 X := by
  have k3 : nz 3689348814741910323 = rep 51 8 := by decide
  have q2 := stp2 8 X
  have b2' := b2map 8 X
  rw [show rep 68 8 = 4919131752989213764 from by decide] at b2'
  rw [nz_add (by rw [nz_and, nz_and, s2, k3, h]; omega), nz_and, nz_and, s2, k3, h]
  exact q2
theorem bc3 {X : Nat} {y : Int64} (h : nz y = mapB (fun l => f2 (f1 l)) 8 X) : nz ((y + (jlushr y (4 : Int32))) &&& (1085102592571150095 : Int64)) = mapB (fun l => bsm 8 l) 8 X := by
  have kf : nz 1085102592571150095 = rep 15 8 := by decide
  have b2' := b2map 8 X
  rw [show rep 68 8 = 4919131752989213764 from by decide] at b2'
  rw [nz_and, nz_add (by rw [s4, h]; omega), s4, kf, h]
  exact stp3 8 X
theorem lowI (y6 : Int64) : y6.toInt32.toBitVec.toNat = nz y6 % 4294967296 := by
  rw [Int64.toBitVec_toInt32, BitVec.signExtend_eq_setWidth_of_le _ (by omega), BitVec.toNat_setWidth]
  rfl
theorem nI_nat {c : Nat} (h : c < 4294967296) : (nI c).toBitVec.toNat = c := by
  show (Int32.ofNat _).toBitVec.toNat = _
  rw [Int32.toBitVec_ofNat', BitVec.toNat_ofNat]
  omega
theorem dvN {N K c : Nat} (h : c < N) : (N * K + c) / N = K := by
  rw [Nat.mul_add_div (by omega), Nat.div_eq_of_lt h, Nat.add_zero]
theorem bcn {c0 c1 c2 c3 c4 c5 c6 c7 : Nat} (i0 : c0 ≤ 8) (i1 : c1 ≤ 8) (i2 : c2 ≤ 8) (i3 : c3 ≤ 8) (i4 : c4 ≤ 8) (i5 : c5 ≤ 8) (i6 : c6 ≤ 8) (i7 : c7 ≤ 8) : 
    (256 * (256 * (256 * (256 * (256 * (256 * (256 * c7 + c6) + c5) + c4) + c3) + c2) + c1) + c0 + (256 * (256 * (256 * (256 * (256 * (256 * (256 * c7 + c6) + c5) + c4) + c3) + c2) + c1) + c0) / 256 + (256 * (256 * (256 * (256 * (256 * (256 * (256 * c7 + c6) + c5) + c4) + c3) + c2) + c1) + c0 + (256 * (256 * (256 * (256 * (256 * (256 * (256 * c7 + c6) + c5) + c4) + c3) + c2) + c1) + c0) / 256) / 65536 + (256 * (256 * (256 * (256 * (256 * (256 * (256 * c7 + c6) + c5) + c4) + c3) + c2) + c1) + c0 + (256 * (256 * (256 * (256 * (256 * (256 * (256 * c7 + c6) + c5) + c4) + c3) + c2) + c1) + c0) / 256 + (256 * (256 * (256 * (256 * (256 * (256 * (256 * c7 + c6) + c5) + c4) + c3) + c2) + c1) + c0 + (256 * (256 * (256 * (256 * (256 * (256 * (256 * c7 + c6) + c5) + c4) + c3) + c2) + c1) + c0) / 256) / 65536) / 4294967296) % 4294967296 % 2 ^ 7 = c0 + c1 + c2 + c3 + c4 + c5 + c6 + c7 := by
  rw [dvN (N := 256) (by omega)]
  obtain ⟨A, hA⟩ : ∃ A, A = 256 * (256 * (256 * (256 * (256 * (256 * (256 * c7 + c6) + c5) + c4) + c3) + c2) + c1) + c0 + (256 * (256 * (256 * (256 * (256 * (256 * c7 + c6) + c5) + c4) + c3) + c2) + c1) := ⟨_, rfl⟩
  rw [← hA]
  have hA2 : A = 65536 * (256 * (256 * (256 * (256 * (256 * c7 + (c6 + c7)) + (c5 + c6)) + (c4 + c5)) + (c3 + c4)) + (c2 + c3)) + (256 * (c1 + c2) + (c0 + c1)) := by omega
  rw [hA2, dvN (N := 65536) (by omega)]
  obtain ⟨D, hD⟩ : ∃ D, D = 65536 * (256 * (256 * (256 * (256 * (256 * c7 + (c6 + c7)) + (c5 + c6)) + (c4 + c5)) + (c3 + c4)) + (c2 + c3)) + (256 * (c1 + c2) + (c0 + c1)) + (256 * (256 * (256 * (256 * (256 * c7 + (c6 + c7)) + (c5 + c6)) + (c4 + c5)) + (c3 + c4)) + (c2 + c3)) := ⟨_, rfl⟩
  rw [← hD]
  clear hA2 hA A
  have hD2 : D = 4294967296 * (256 * (256 * (256 * c7 + (c6 + c7)) + (c5 + c6 + c7)) + (c4 + c5 + c6 + c7)) + (256 * (256 * (256 * (c3 + c4 + c5 + c6) + (c2 + c3 + c4 + c5)) + (c1 + c2 + c3 + c4)) + (c0 + c1 + c2 + c3)) := by omega
  rw [hD2, dvN (N := 4294967296) (by omega)]
  clear hD2 hD D
  have hE : 4294967296 * (256 * (256 * (256 * c7 + (c6 + c7)) + (c5 + c6 + c7)) + (c4 + c5 + c6 + c7)) + (256 * (256 * (256 * (c3 + c4 + c5 + c6) + (c2 + c3 + c4 + c5)) + (c1 + c2 + c3 + c4)) + (c0 + c1 + c2 + c3)) + (256 * (256 * (256 * c7 + (c6 + c7)) + (c5 + c6 + c7)) + (c4 + c5 + c6 + c7)) = 4294967296 * (256 * (256 * (256 * c7 + (c6 + c7)) + (c5 + c6 + c7)) + (c4 + c5 + c6 + c7)) + (256 * (256 * (256 * (c3 + c4 + c5 + c6 + c7) + (c2 + c3 + c4 + c5 + c6 + c7)) + (c1 + c2 + c3 + c4 + c5 + c6 + c7)) + (c0 + c1 + c2 + c3 + c4 + c5 + c6 + c7)) := by omega
  rw [hE, Nat.mul_add_mod, Nat.mod_eq_of_lt (a := 256 * (256 * (256 * (c3 + c4 + c5 + c6 + c7) + (c2 + c3 + c4 + c5 + c6 + c7)) + (c1 + c2 + c3 + c4 + c5 + c6 + c7)) + (c0 + c1 + c2 + c3 + c4 + c5 + c6 + c7)) (by omega)]
  rw [show 256 * (256 * (256 * (c3 + c4 + c5 + c6 + c7) + (c2 + c3 + c4 + c5 + c6 + c7)) + (c1 + c2 + c3 + c4 + c5 + c6 + c7)) + (c0 + c1 + c2 + c3 + c4 + c5 + c6 + c7) = 2 ^ 7 * (2 * (256 * (256 * (c3 + c4 + c5 + c6 + c7) + (c2 + c3 + c4 + c5 + c6 + c7)) + (c1 + c2 + c3 + c4 + c5 + c6 + c7))) + (c0 + c1 + c2 + c3 + c4 + c5 + c6 + c7) by omega, Nat.mul_add_mod, Nat.mod_eq_of_lt (by omega)]
theorem bc4 {c0 c1 c2 c3 c4 c5 c6 c7 : Nat} (i0 : c0 ≤ 8) (i1 : c1 ≤ 8) (i2 : c2 ≤ 8) (i3 : c3 ≤ 8) (i4 : c4 ≤ 8) (i5 : c5 ≤ 8) (i6 : c6 ≤ 8) (i7 : c7 ≤ 8) {y3 : Int64} (e3' : nz y3 = 256 * (256 * (256 * (256 * (256 * (256 * (256 * c7 + c6) + c5) + c4) + c3) + c2) + c1) + c0) : bcT y3 = some (nI (c0 + c1 + c2 + c3 + c4 + c5 + c6 + c7)) := by
  unfold bcT
  have e4 : nz (y3 + jlushr y3 (8 : Int32)) = nz y3 + nz y3 / 256 := by rw [nz_add (by rw [s8]; omega), s8]
  obtain ⟨y4, h4⟩ : ∃ y, y = y3 + jlushr y3 (8 : Int32) := ⟨_, rfl⟩
  rw [jlet_d, ← h4]
  rw [← h4] at e4
  have e5 : nz (y4 + jlushr y4 (16 : Int32)) = nz y4 + nz y4 / 65536 := by rw [nz_add (by rw [s16]; omega), s16]
  obtain ⟨y5, h5⟩ : ∃ y, y = y4 + jlushr y4 (16 : Int32) := ⟨_, rfl⟩
  rw [jlet_d, ← h5]
  rw [← h5] at e5
  have e6 : nz (y5 + jlushr y5 (32 : Int32)) = nz y5 + nz y5 / 4294967296 := by rw [nz_add (by rw [s32]; omega), s32]
  obtain ⟨y6, h6⟩ : ∃ y, y = y5 + jlushr y5 (32 : Int32) := ⟨_, rfl⟩
  rw [jlet_d, ← h6]
  rw [← h6] at e6
  congr 1
  apply Int32.toBitVec_inj.mp
  apply BitVec.eq_of_toNat_eq
  rw [Int32.toBitVec_and, BitVec.toNat_and, show ((127 : Int32).toBitVec).toNat = 2 ^ 7 - 1 from by decide, Nat.and_two_pow_sub_one_eq_mod, lowI, nI_nat (by omega)]
  rw [e6, e5, e4, e3']
  exact bcn i0 i1 i2 i3 i4 i5 i6 i7
theorem map8 (f : Nat → Nat) (X : Nat) : mapB f 8 X = 256 * (256 * (256 * (256 * (256 * (256 * (256 * f (X / 72057594037927936 % 256) + f (X / 281474976710656 % 256)) + f (X / 1099511627776 % 256)) + f (X / 4294967296 % 256)) + f (X / 16777216 % 256)) + f (X / 65536 % 256)) + f (X / 256 % 256)) + f (X % 256) := by
  unfold mapB mapB mapB mapB mapB mapB mapB mapB mapB
  simp only [Nat.div_div_eq_div_mul, Nat.reduceMul, Nat.mul_zero, Nat.zero_add]
theorem bitCount_n (v : Int64) : J13_bitCount_95d88 v = some (nI (bsm 64 (nz v))) := by
  have hb := fun l : Nat => (fin3 (l % 256) (Nat.mod_lt _ (by omega)) 0 (by omega)).2.2
  rw [bc_e]
  unfold bcR bcS
  rw [bsm64]
  exact bc4 (hb _) (hb _) (hb _) (hb _) (hb _) (hb _) (hb _) (hb _) ((bc3 (bc2 (bc1 v))).trans (map8 _ _))
/-- the bits of a long -/
def bits (v : Int64) (P : Nat → Bool) : Prop := ∀ i, i < 64 → (nz v).testBit i = P i
theorem bitCount_b {v : Int64} {P : Nat → Bool} (h : bits v P) : J13_bitCount_95d88 v = some (nI (cntB P 64)) := by
  rw [bitCount_n, bsm_cnt, cntB_congr h]
theorem bits_ext {v w : Int64} {P : Nat → Bool} (h : bits v P) (h2 : bits w P) : v = w := by
  apply Int64.toBitVec_inj.mp
  apply BitVec.eq_of_toNat_eq
  apply Nat.eq_of_testBit_eq
  intro i
  by_cases hi : i < 64
  · exact (h i hi).trans (h2 i hi).symm
  · have e : ∀ x : Int64, (x.toBitVec.toNat).testBit i = false := fun x => Nat.testBit_lt_two_pow (Nat.lt_of_lt_of_le (nz_lt x) (Nat.le_trans (show (18446744073709551616 : Nat) ≤ 2 ^ 64 by decide) (Nat.pow_le_pow_right (by omega) (by omega))))
    rw [e, e]
theorem bits_0 : bits 0 (fun _ => false) := fun i _ => by
  rw [show nz 0 = 0 from by decide, Nat.zero_testBit]
theorem nz_or (a b : Int64) : nz (a ||| b) = nz a ||| nz b := by
  unfold nz
  rw [Int64.toBitVec_or, BitVec.toNat_or]
theorem nz_one : ∀ p, p < 64 → nz (jlshl 1 (nI p)) = 2 ^ p := by decide +kernel
theorem bits_set {v : Int64} {P : Nat → Bool} (h : bits v P) {p : Nat} (hp : p < 64) : bits (v ||| jlshl 1 (nI p)) (fun i => P i || decide (p = i)) := fun i hi => by
  rw [nz_or, nz_one p hp, Nat.testBit_or, h i hi, Nat.testBit_two_pow]
theorem bits_congr {v : Int64} {P Q : Nat → Bool} (h : bits v P) (hq : ∀ i, i < 64 → P i = Q i) : bits v Q := fun i hi => (h i hi).trans (hq i hi)
theorem nz_not (a : Int64) : nz (a ^^^ (-1 : Int64)) = 18446744073709551615 - nz a := by
  unfold nz
  rw [show (a ^^^ (-1 : Int64)).toBitVec = ~~~ a.toBitVec from by rw [Int64.toBitVec_xor, show (-1 : Int64).toBitVec = BitVec.allOnes 64 from by decide, BitVec.xor_allOnes], BitVec.toNat_not]
theorem bits_not {v : Int64} {P : Nat → Bool} (h : bits v P) : bits (v ^^^ (-1 : Int64)) (fun i => !P i) := fun i hi => by
  unfold nz
  rw [show (v ^^^ (-1 : Int64)).toBitVec = ~~~ v.toBitVec from by rw [Int64.toBitVec_xor, show (-1 : Int64).toBitVec = BitVec.allOnes 64 from by decide, BitVec.xor_allOnes], ← BitVec.getLsbD, BitVec.getLsbD_not]
  have := h i hi
  unfold nz at this
  rw [← BitVec.getLsbD] at this
  rw [this]
  simp [hi]
theorem bits_and {v w : Int64} {P Q : Nat → Bool} (h : bits v P) (h2 : bits w Q) : bits (v &&& w) (fun i => P i && Q i) := fun i hi => by
  rw [nz_and, Nat.testBit_and, h i hi, h2 i hi]
