/-! THE LAW -/
theorem cmp_self (x : Int64) : lg_cmp x x = 0 := by
  rw [cmp_eq]
theorem GG_init : GG 1 0 0 0 (fun _ => 1) I02 L00 := by
  have hs : ∀ s, s < 8 → I02 (148 + 2 * s) 0 = -1 ∧ I02 (148 + 2 * s) 1 = -1 ∧ I02 (148 + 2 * s) 2 = 0 ∧ I02 170 s = -1 := by decide +kernel
  have hr : ∀ e, e < 5 → I02 146 e = I02 168 e := by decide +kernel
  exact ⟨ST_init, fun s h => Or.inl (hs s h), ⟨0, by omega, by decide +kernel, by decide +kernel, fun i hi => by omega⟩, Or.inl ⟨by decide +kernel, by decide +kernel⟩, hr⟩
def NXT (len : Nat) (xs : Nat → Int32) (n v B : Nat) : Prop := ∀ (I : jI) (L : jL) (cnt mode T : Nat) (S : Nat → Nat), GG (B + 32768) cnt mode T S I L → jfx (L_law_F1 len xs) (fun _ _ _ => none) n (nI v + (6 : Int32)) I L = some ()
section LAW
variable {len n v B cnt mode T : Nat} {xs : Nat → Int32} {S : Nat → Nat} {I : jI} {L : jL}
theorem b_row (hv : v + 6 ≤ len) (hlen : len ≤ 3072) (hB : B + 32768 < 1073741824) (g : GG B cnt mode T S I L) (k : NXT len xs n v B) : (if jin ((nI v) + (1 : Int32)) len then (
if jin ((nI v) + (2 : Int32)) len then (
if jin ((nI v) + (3 : Int32)) len then (
jb3 (X6_row 1 (xs (((nI v) + (1 : Int32))).toNatClampNeg) (xs (((nI v) + (2 : Int32))).toNatClampNeg) (xs (((nI v) + (3 : Int32))).toNatClampNeg) I L) (fun (y14 : Int32) (I15 : jI) (L16 : jL) =>
if jin ((nI v) + (1 : Int32)) len then (
if jin ((nI v) + (2 : Int32)) len then (
if jin ((nI v) + (3 : Int32)) len then (
jb3 (X7_row 164 (xs (((nI v) + (1 : Int32))).toNatClampNeg) (xs (((nI v) + (2 : Int32))).toNatClampNeg) (xs (((nI v) + (3 : Int32))).toNatClampNeg) I15 L16) (fun (y21 : Int32) (I22 : jI) (L23 : jL) =>
if y14 = y21 then (
(fun (I7 : jI) (L8 : jL) => jfx (L_law_F1 len xs) (fun _ _ _ => none) n (nI v + (6 : Int32)) I7 L8) I22 L23)
else (
none))) else none) else none) else none)) else none) else none) else none) = some () := by
  have e1 : nI v + (1 : Int32) = nI (v + 1) := nI_add v 1
  have j1 : jin (nI (v + 1)) len := jin_N (by omega) (by omega)
  have e2 : nI v + (2 : Int32) = nI (v + 2) := nI_add v 2
  have j2 : jin (nI (v + 2)) len := jin_N (by omega) (by omega)
  have e3 : nI v + (3 : Int32) = nI (v + 3) := nI_add v 3
  have j3 : jin (nI (v + 3)) len := jin_N (by omega) (by omega)
  obtain ⟨y, I1, L1, I2, L2, q1, q2, c2, m2, t2, s2, g2⟩ := t_row g (xs ((nI (v + 1))).toNatClampNeg) (xs ((nI (v + 2))).toNatClampNeg) (xs ((nI (v + 3))).toNatClampNeg)
  rw [e1, e2, e3, if_pos j1, if_pos j2, if_pos j3, show X6_row 1 (xs ((nI (v + 1))).toNatClampNeg) (xs ((nI (v + 2))).toNatClampNeg) (xs ((nI (v + 3))).toNatClampNeg) I L = some (y, I1, L1) from q1, jb3_some, if_pos j1, if_pos j2, if_pos j3, show X7_row 164 (xs ((nI (v + 1))).toNatClampNeg) (xs ((nI (v + 2))).toNatClampNeg) (xs ((nI (v + 3))).toNatClampNeg) I1 L1 = some (y, I2, L2) from q2, jb3_some, if_pos rfl]
  exact k _ _ _ _ _ _ g2
theorem b_set (hv : v + 6 ≤ len) (hlen : len ≤ 3072) (hB : B + 32768 < 1073741824) (g : GG B cnt mode T S I L) (k : NXT len xs n v B) : (if jin ((nI v) + (1 : Int32)) len then (
if jin ((nI v) + (2 : Int32)) len then (
if jin ((nI v) + (3 : Int32)) len then (
if jin ((nI v) + (4 : Int32)) len then (
jb3 (X6_set 1 (xs (((nI v) + (1 : Int32))).toNatClampNeg) (xs (((nI v) + (2 : Int32))).toNatClampNeg) ((jlshl (((xs (((nI v) + (3 : Int32))).toNatClampNeg)).toInt64) (32 : Int32)) ||| (((xs (((nI v) + (4 : Int32))).toNatClampNeg)).toInt64 &&& (4294967295 : Int64))) I L) (fun (y31 : Int32) (I32 : jI) (L33 : jL) =>
if jin ((nI v) + (1 : Int32)) len then (
if jin ((nI v) + (2 : Int32)) len then (
if jin ((nI v) + (3 : Int32)) len then (
if jin ((nI v) + (4 : Int32)) len then (
jb3 (X7_set 164 (xs (((nI v) + (1 : Int32))).toNatClampNeg) (xs (((nI v) + (2 : Int32))).toNatClampNeg) ((jlshl (((xs (((nI v) + (3 : Int32))).toNatClampNeg)).toInt64) (32 : Int32)) ||| (((xs (((nI v) + (4 : Int32))).toNatClampNeg)).toInt64 &&& (4294967295 : Int64))) I32 L33) (fun (y39 : Int32) (I40 : jI) (L41 : jL) =>
if y31 = y39 then (
(fun (I7 : jI) (L8 : jL) => jfx (L_law_F1 len xs) (fun _ _ _ => none) n (nI v + (6 : Int32)) I7 L8) I40 L41)
else (
none))) else none) else none) else none) else none)) else none) else none) else none) else none) = some () := by
  have e1 : nI v + (1 : Int32) = nI (v + 1) := nI_add v 1
  have j1 : jin (nI (v + 1)) len := jin_N (by omega) (by omega)
  have e2 : nI v + (2 : Int32) = nI (v + 2) := nI_add v 2
  have j2 : jin (nI (v + 2)) len := jin_N (by omega) (by omega)
  have e3 : nI v + (3 : Int32) = nI (v + 3) := nI_add v 3
  have j3 : jin (nI (v + 3)) len := jin_N (by omega) (by omega)
  have e4 : nI v + (4 : Int32) = nI (v + 4) := nI_add v 4
  have j4 : jin (nI (v + 4)) len := jin_N (by omega) (by omega)
  obtain ⟨y, I1, L1, I2, L2, q1, q2, c2, m2, t2, s2, g2⟩ := t_sets g (xs ((nI (v + 1))).toNatClampNeg) (xs ((nI (v + 2))).toNatClampNeg) ((jlshl (((xs ((nI (v + 3))).toNatClampNeg)).toInt64) (32 : Int32)) ||| (((xs ((nI (v + 4))).toNatClampNeg)).toInt64 &&& (4294967295 : Int64)))
  rw [e1, e2, e3, e4, if_pos j1, if_pos j2, if_pos j3, if_pos j4, show X6_set 1 (xs ((nI (v + 1))).toNatClampNeg) (xs ((nI (v + 2))).toNatClampNeg) ((jlshl (((xs ((nI (v + 3))).toNatClampNeg)).toInt64) (32 : Int32)) ||| (((xs ((nI (v + 4))).toNatClampNeg)).toInt64 &&& (4294967295 : Int64))) I L = some (y, I1, L1) from q1, jb3_some, if_pos j1, if_pos j2, if_pos j3, if_pos j4, show X7_set 164 (xs ((nI (v + 1))).toNatClampNeg) (xs ((nI (v + 2))).toNatClampNeg) ((jlshl (((xs ((nI (v + 3))).toNatClampNeg)).toInt64) (32 : Int32)) ||| (((xs ((nI (v + 4))).toNatClampNeg)).toInt64 &&& (4294967295 : Int64))) I1 L1 = some (y, I2, L2) from q2, jb3_some, if_pos rfl]
  exact k _ _ _ _ _ _ g2
theorem b_copy (hv : v + 6 ≤ len) (hlen : len ≤ 3072) (hB : B + 32768 < 1073741824) (g : GG B cnt mode T S I L) (k : NXT len xs n v B) : (if jin ((nI v) + (1 : Int32)) len then (
if jin ((nI v) + (2 : Int32)) len then (
if jin ((nI v) + (3 : Int32)) len then (
if jin ((nI v) + (4 : Int32)) len then (
if jin ((nI v) + (5 : Int32)) len then (
jb3 (X6_copy 1 (xs (((nI v) + (1 : Int32))).toNatClampNeg) (xs (((nI v) + (2 : Int32))).toNatClampNeg) (xs (((nI v) + (3 : Int32))).toNatClampNeg) (xs (((nI v) + (4 : Int32))).toNatClampNeg) (xs (((nI v) + (5 : Int32))).toNatClampNeg) I L) (fun (y50 : Int32) (I51 : jI) (L52 : jL) =>
if jin ((nI v) + (1 : Int32)) len then (
if jin ((nI v) + (2 : Int32)) len then (
if jin ((nI v) + (3 : Int32)) len then (
if jin ((nI v) + (4 : Int32)) len then (
if jin ((nI v) + (5 : Int32)) len then (
jb3 (X7_copy 164 (xs (((nI v) + (1 : Int32))).toNatClampNeg) (xs (((nI v) + (2 : Int32))).toNatClampNeg) (xs (((nI v) + (3 : Int32))).toNatClampNeg) (xs (((nI v) + (4 : Int32))).toNatClampNeg) (xs (((nI v) + (5 : Int32))).toNatClampNeg) I51 L52) (fun (y59 : Int32) (I60 : jI) (L61 : jL) =>
if y50 = y59 then (
(fun (I7 : jI) (L8 : jL) => jfx (L_law_F1 len xs) (fun _ _ _ => none) n (nI v + (6 : Int32)) I7 L8) I60 L61)
else (
none))) else none) else none) else none) else none) else none)) else none) else none) else none) else none) else none) = some () := by
  have e1 : nI v + (1 : Int32) = nI (v + 1) := nI_add v 1
  have j1 : jin (nI (v + 1)) len := jin_N (by omega) (by omega)
  have e2 : nI v + (2 : Int32) = nI (v + 2) := nI_add v 2
  have j2 : jin (nI (v + 2)) len := jin_N (by omega) (by omega)
  have e3 : nI v + (3 : Int32) = nI (v + 3) := nI_add v 3
  have j3 : jin (nI (v + 3)) len := jin_N (by omega) (by omega)
  have e4 : nI v + (4 : Int32) = nI (v + 4) := nI_add v 4
  have j4 : jin (nI (v + 4)) len := jin_N (by omega) (by omega)
  have e5 : nI v + (5 : Int32) = nI (v + 5) := nI_add v 5
  have j5 : jin (nI (v + 5)) len := jin_N (by omega) (by omega)
  obtain ⟨y, I1, L1, I2, L2, q1, q2, c2, m2, t2, s2, g2⟩ := t_copy g (xs ((nI (v + 1))).toNatClampNeg) (xs ((nI (v + 2))).toNatClampNeg) (xs ((nI (v + 3))).toNatClampNeg) (xs ((nI (v + 4))).toNatClampNeg) (xs ((nI (v + 5))).toNatClampNeg)
  rw [e1, e2, e3, e4, e5, if_pos j1, if_pos j2, if_pos j3, if_pos j4, if_pos j5, show X6_copy 1 (xs ((nI (v + 1))).toNatClampNeg) (xs ((nI (v + 2))).toNatClampNeg) (xs ((nI (v + 3))).toNatClampNeg) (xs ((nI (v + 4))).toNatClampNeg) (xs ((nI (v + 5))).toNatClampNeg) I L = some (y, I1, L1) from q1, jb3_some, if_pos j1, if_pos j2, if_pos j3, if_pos j4, if_pos j5, show X7_copy 164 (xs ((nI (v + 1))).toNatClampNeg) (xs ((nI (v + 2))).toNatClampNeg) (xs ((nI (v + 3))).toNatClampNeg) (xs ((nI (v + 4))).toNatClampNeg) (xs ((nI (v + 5))).toNatClampNeg) I1 L1 = some (y, I2, L2) from q2, jb3_some, if_pos rfl]
  exact k _ _ _ _ _ _ g2
theorem b_element (hv : v + 6 ≤ len) (hlen : len ≤ 3072) (hB : B + 32768 < 1073741824) (g : GG B cnt mode T S I L) (k : NXT len xs n v B) : (if jin ((nI v) + (1 : Int32)) len then (
if jin ((nI v) + (2 : Int32)) len then (
(X6_element 1 (xs (((nI v) + (1 : Int32))).toNatClampNeg) (xs (((nI v) + (2 : Int32))).toNatClampNeg) I L).bind (fun (y67 : Int64) =>
if jin ((nI v) + (1 : Int32)) len then (
if jin ((nI v) + (2 : Int32)) len then (
(X7_element 164 (xs (((nI v) + (1 : Int32))).toNatClampNeg) (xs (((nI v) + (2 : Int32))).toNatClampNeg) I L).bind (fun (y71 : Int64) =>
if (lg_cmp y67 y71) = 0 then (
(fun (I7 : jI) (L8 : jL) => jfx (L_law_F1 len xs) (fun _ _ _ => none) n (nI v + (6 : Int32)) I7 L8) I L)
else (
none))) else none) else none)) else none) else none) = some () := by
  have e1 : nI v + (1 : Int32) = nI (v + 1) := nI_add v 1
  have j1 : jin (nI (v + 1)) len := jin_N (by omega) (by omega)
  have e2 : nI v + (2 : Int32) = nI (v + 2) := nI_add v 2
  have j2 : jin (nI (v + 2)) len := jin_N (by omega) (by omega)
  obtain ⟨y, q1, q2⟩ := t_element g (xs ((nI (v + 1))).toNatClampNeg) (xs ((nI (v + 2))).toNatClampNeg)
  rw [e1, e2, if_pos j1, if_pos j2, show X6_element 1 (xs ((nI (v + 1))).toNatClampNeg) (xs ((nI (v + 2))).toNatClampNeg) I L = some y from q1, ob_some, if_pos j1, if_pos j2, show X7_element 164 (xs ((nI (v + 1))).toNatClampNeg) (xs ((nI (v + 2))).toNatClampNeg) I L = some y from q2, ob_some, if_pos (cmp_self y)]
  exact k _ _ _ _ _ _ (g.mono (by omega))
theorem b_holds (hv : v + 6 ≤ len) (hlen : len ≤ 3072) (hB : B + 32768 < 1073741824) (g : GG B cnt mode T S I L) (k : NXT len xs n v B) : (if jin ((nI v) + (1 : Int32)) len then (
(X6_holds 1 (xs (((nI v) + (1 : Int32))).toNatClampNeg) I).bind (fun (y76 : Int32) =>
if jin ((nI v) + (1 : Int32)) len then (
(X7_holds 164 (xs (((nI v) + (1 : Int32))).toNatClampNeg) I).bind (fun (y79 : Int32) =>
if y76 = y79 then (
(fun (I7 : jI) (L8 : jL) => jfx (L_law_F1 len xs) (fun _ _ _ => none) n (nI v + (6 : Int32)) I7 L8) I L)
else (
none))) else none)) else none) = some () := by
  have e1 : nI v + (1 : Int32) = nI (v + 1) := nI_add v 1
  have j1 : jin (nI (v + 1)) len := jin_N (by omega) (by omega)
  obtain ⟨y, q1, q2⟩ := t_holds g (xs ((nI (v + 1))).toNatClampNeg)
  rw [e1, if_pos j1, show X6_holds 1 (xs ((nI (v + 1))).toNatClampNeg) I = some y from q1, ob_some, if_pos j1, show X7_holds 164 (xs ((nI (v + 1))).toNatClampNeg) I = some y from q2, ob_some, if_pos rfl]
  exact k _ _ _ _ _ _ (g.mono (by omega))
theorem b_show (hv : v + 6 ≤ len) (hlen : len ≤ 3072) (hB : B + 32768 < 1073741824) (g : GG B cnt mode T S I L) (k : NXT len xs n v B) : (if jin ((nI v) + (1 : Int32)) len then (
if jin ((nI v) + (2 : Int32)) len then (
jb2 (X6_show 1 (xs (((nI v) + (1 : Int32))).toNatClampNeg) (xs (((nI v) + (2 : Int32))).toNatClampNeg) I) (fun (y85 : Int32) (I86 : jI) =>
if jin ((nI v) + (1 : Int32)) len then (
if jin ((nI v) + (2 : Int32)) len then (
jb2 (X7_show 164 (xs (((nI v) + (1 : Int32))).toNatClampNeg) (xs (((nI v) + (2 : Int32))).toNatClampNeg) I86) (fun (y90 : Int32) (I91 : jI) =>
if y85 = y90 then (
(fun (I7 : jI) (L8 : jL) => jfx (L_law_F1 len xs) (fun _ _ _ => none) n (nI v + (6 : Int32)) I7 L8) I91 L)
else (
none))) else none) else none)) else none) else none) = some () := by
  have e1 : nI v + (1 : Int32) = nI (v + 1) := nI_add v 1
  have j1 : jin (nI (v + 1)) len := jin_N (by omega) (by omega)
  have e2 : nI v + (2 : Int32) = nI (v + 2) := nI_add v 2
  have j2 : jin (nI (v + 2)) len := jin_N (by omega) (by omega)
  obtain ⟨y, I1, I2, q1, q2, c2, m2, t2, s2, g2⟩ := t_show g (xs ((nI (v + 1))).toNatClampNeg) (xs ((nI (v + 2))).toNatClampNeg)
  rw [e1, e2, if_pos j1, if_pos j2, show X6_show 1 (xs ((nI (v + 1))).toNatClampNeg) (xs ((nI (v + 2))).toNatClampNeg) I = some (y, I1) from q1, jb2_some, if_pos j1, if_pos j2, show X7_show 164 (xs ((nI (v + 1))).toNatClampNeg) (xs ((nI (v + 2))).toNatClampNeg) I1 = some (y, I2) from q2, jb2_some, if_pos rfl]
  exact k _ _ _ _ _ _ g2
theorem b_says (hv : v + 6 ≤ len) (hlen : len ≤ 3072) (hB : B + 32768 < 1073741824) (g : GG B cnt mode T S I L) (k : NXT len xs n v B) : (if jin ((nI v) + (1 : Int32)) len then (
if jin ((nI v) + (2 : Int32)) len then (
jb2 (X6_says 1 (xs (((nI v) + (1 : Int32))).toNatClampNeg) (xs (((nI v) + (2 : Int32))).toNatClampNeg) I) (fun (y97 : Int32) (I98 : jI) =>
if jin ((nI v) + (1 : Int32)) len then (
if jin ((nI v) + (2 : Int32)) len then (
jb2 (X7_says 164 (xs (((nI v) + (1 : Int32))).toNatClampNeg) (xs (((nI v) + (2 : Int32))).toNatClampNeg) I98) (fun (y102 : Int32) (I103 : jI) =>
if y97 = y102 then (
(fun (I7 : jI) (L8 : jL) => jfx (L_law_F1 len xs) (fun _ _ _ => none) n (nI v + (6 : Int32)) I7 L8) I103 L)
else (
none))) else none) else none)) else none) else none) = some () := by
  have e1 : nI v + (1 : Int32) = nI (v + 1) := nI_add v 1
  have j1 : jin (nI (v + 1)) len := jin_N (by omega) (by omega)
  have e2 : nI v + (2 : Int32) = nI (v + 2) := nI_add v 2
  have j2 : jin (nI (v + 2)) len := jin_N (by omega) (by omega)
  obtain ⟨y, I1, I2, q1, q2, c2, m2, t2, s2, g2⟩ := t_says g hB (xs ((nI (v + 1))).toNatClampNeg) (xs ((nI (v + 2))).toNatClampNeg)
  rw [e1, e2, if_pos j1, if_pos j2, show X6_says 1 (xs ((nI (v + 1))).toNatClampNeg) (xs ((nI (v + 2))).toNatClampNeg) I = some (y, I1) from q1, jb2_some, if_pos j1, if_pos j2, show X7_says 164 (xs ((nI (v + 1))).toNatClampNeg) (xs ((nI (v + 2))).toNatClampNeg) I1 = some (y, I2) from q2, jb2_some, if_pos rfl]
  exact k _ _ _ _ _ _ g2
theorem b_feed (hv : v + 6 ≤ len) (hlen : len ≤ 3072) (hB : B + 32768 < 1073741824) (g : GG B cnt mode T S I L) (k : NXT len xs n v B) : (if jin ((nI v) + (1 : Int32)) len then (
jb2 (X6_feed 1 (xs (((nI v) + (1 : Int32))).toNatClampNeg) I) (fun (y108 : Int32) (I109 : jI) =>
if jin ((nI v) + (1 : Int32)) len then (
jb2 (X7_feed 164 (xs (((nI v) + (1 : Int32))).toNatClampNeg) I109) (fun (y112 : Int32) (I113 : jI) =>
if y108 = y112 then (
(fun (I7 : jI) (L8 : jL) => jfx (L_law_F1 len xs) (fun _ _ _ => none) n (nI v + (6 : Int32)) I7 L8) I113 L)
else (
none))) else none)) else none) = some () := by
  have e1 : nI v + (1 : Int32) = nI (v + 1) := nI_add v 1
  have j1 : jin (nI (v + 1)) len := jin_N (by omega) (by omega)
  obtain ⟨y, I1, I2, q1, q2, c2, m2, t2, s2, g2⟩ := t_feed g (xs ((nI (v + 1))).toNatClampNeg)
  rw [e1, if_pos j1, show X6_feed 1 (xs ((nI (v + 1))).toNatClampNeg) I = some (y, I1) from q1, jb2_some, if_pos j1, show X7_feed 164 (xs ((nI (v + 1))).toNatClampNeg) I1 = some (y, I2) from q2, jb2_some, if_pos rfl]
  exact k _ _ _ _ _ _ g2
theorem b_wipe (hv : v + 6 ≤ len) (hlen : len ≤ 3072) (hB : B + 32768 < 1073741824) (g : GG B cnt mode T S I L) (k : NXT len xs n v B) : (jb2 (X6_wipe 1 I) (fun (y117 : Int32) (I118 : jI) =>
jb2 (X7_wipe 164 I118) (fun (y120 : Int32) (I121 : jI) =>
if y117 = y120 then (
(fun (I7 : jI) (L8 : jL) => jfx (L_law_F1 len xs) (fun _ _ _ => none) n (nI v + (6 : Int32)) I7 L8) I121 L)
else (
none)))) = some () := by
  obtain ⟨y, I1, I2, q1, q2, c2, m2, t2, s2, g2⟩ := t_wipe g 
  rw [show X6_wipe 1  I = some (y, I1) from q1, jb2_some, show X7_wipe 164  I1 = some (y, I2) from q2, jb2_some, if_pos rfl]
  exact k _ _ _ _ _ _ g2
theorem b_traffic (hv : v + 6 ≤ len) (hlen : len ≤ 3072) (hB : B + 32768 < 1073741824) (g : GG B cnt mode T S I L) (k : NXT len xs n v B) : (jb2 (X6_traffic 1 I) (fun (y125 : Int32) (I126 : jI) =>
jb2 (X7_traffic 164 I126) (fun (y128 : Int32) (I129 : jI) =>
if y125 = y128 then (
(fun (I7 : jI) (L8 : jL) => jfx (L_law_F1 len xs) (fun _ _ _ => none) n (nI v + (6 : Int32)) I7 L8) I129 L)
else (
none)))) = some () := by
  obtain ⟨y, I1, I2, q1, q2, c2, m2, t2, s2, g2⟩ := t_traffic g hB 
  rw [show X6_traffic 1  I = some (y, I1) from q1, jb2_some, show X7_traffic 164  I1 = some (y, I2) from q2, jb2_some, if_pos rfl]
  exact k _ _ _ _ _ _ g2
theorem b_level (hv : v + 6 ≤ len) (hlen : len ≤ 3072) (hB : B + 32768 < 1073741824) (g : GG B cnt mode T S I L) (k : NXT len xs n v B) : (if jin ((nI v) + (1 : Int32)) len then (
if jin ((nI v) + (2 : Int32)) len then (
if jin ((nI v) + (3 : Int32)) len then (
jb2 (X6_level 1 (xs (((nI v) + (1 : Int32))).toNatClampNeg) (xs (((nI v) + (2 : Int32))).toNatClampNeg) (xs (((nI v) + (3 : Int32))).toNatClampNeg) I) (fun (y136 : Int32) (I137 : jI) =>
if jin ((nI v) + (1 : Int32)) len then (
if jin ((nI v) + (2 : Int32)) len then (
if jin ((nI v) + (3 : Int32)) len then (
jb2 (X7_level 164 (xs (((nI v) + (1 : Int32))).toNatClampNeg) (xs (((nI v) + (2 : Int32))).toNatClampNeg) (xs (((nI v) + (3 : Int32))).toNatClampNeg) I137) (fun (y142 : Int32) (I143 : jI) =>
if y136 = y142 then (
(fun (I7 : jI) (L8 : jL) => jfx (L_law_F1 len xs) (fun _ _ _ => none) n (nI v + (6 : Int32)) I7 L8) I143 L)
else (
none))) else none) else none) else none)) else none) else none) else none) = some () := by
  have e1 : nI v + (1 : Int32) = nI (v + 1) := nI_add v 1
  have j1 : jin (nI (v + 1)) len := jin_N (by omega) (by omega)
  have e2 : nI v + (2 : Int32) = nI (v + 2) := nI_add v 2
  have j2 : jin (nI (v + 2)) len := jin_N (by omega) (by omega)
  have e3 : nI v + (3 : Int32) = nI (v + 3) := nI_add v 3
  have j3 : jin (nI (v + 3)) len := jin_N (by omega) (by omega)
  obtain ⟨y, I1, I2, q1, q2, c2, m2, t2, s2, g2⟩ := t_level g (xs ((nI (v + 1))).toNatClampNeg) (xs ((nI (v + 2))).toNatClampNeg) (xs ((nI (v + 3))).toNatClampNeg)
  rw [e1, e2, e3, if_pos j1, if_pos j2, if_pos j3, show X6_level 1 (xs ((nI (v + 1))).toNatClampNeg) (xs ((nI (v + 2))).toNatClampNeg) (xs ((nI (v + 3))).toNatClampNeg) I = some (y, I1) from q1, jb2_some, if_pos j1, if_pos j2, if_pos j3, show X7_level 164 (xs ((nI (v + 1))).toNatClampNeg) (xs ((nI (v + 2))).toNatClampNeg) (xs ((nI (v + 3))).toNatClampNeg) I1 = some (y, I2) from q2, jb2_some, if_pos rfl]
  exact k _ _ _ _ _ _ g2
theorem b_drop (hv : v + 6 ≤ len) (hlen : len ≤ 3072) (hB : B + 32768 < 1073741824) (g : GG B cnt mode T S I L) (k : NXT len xs n v B) : (jb2 (X6_drop 1 I) (fun (y147 : Int32) (I148 : jI) =>
jb2 (X7_drop 164 I148) (fun (y150 : Int32) (I151 : jI) =>
if y147 = y150 then (
(fun (I7 : jI) (L8 : jL) => jfx (L_law_F1 len xs) (fun _ _ _ => none) n (nI v + (6 : Int32)) I7 L8) I151 L)
else (
none)))) = some () := by
  obtain ⟨y, I1, I2, q1, q2, c2, m2, t2, s2, g2⟩ := t_drop g 
  rw [show X6_drop 1  I = some (y, I1) from q1, jb2_some, show X7_drop 164  I1 = some (y, I2) from q2, jb2_some, if_pos rfl]
  exact k _ _ _ _ _ _ g2
theorem b_mode (hv : v + 6 ≤ len) (hlen : len ≤ 3072) (hB : B + 32768 < 1073741824) (g : GG B cnt mode T S I L) (k : NXT len xs n v B) : (if jin ((nI v) + (1 : Int32)) len then (
if jin ((nI v) + (2 : Int32)) len then (
jb2 (X6_mode 1 (xs (((nI v) + (1 : Int32))).toNatClampNeg) (xs (((nI v) + (2 : Int32))).toNatClampNeg) I) (fun (y157 : Int32) (I158 : jI) =>
if jin ((nI v) + (1 : Int32)) len then (
if jin ((nI v) + (2 : Int32)) len then (
jb2 (X7_mode 164 (xs (((nI v) + (1 : Int32))).toNatClampNeg) (xs (((nI v) + (2 : Int32))).toNatClampNeg) I158) (fun (y162 : Int32) (I163 : jI) =>
if y157 = y162 then (
(fun (I7 : jI) (L8 : jL) => jfx (L_law_F1 len xs) (fun _ _ _ => none) n (nI v + (6 : Int32)) I7 L8) I163 L)
else (
none))) else none) else none)) else none) else none) = some () := by
  have e1 : nI v + (1 : Int32) = nI (v + 1) := nI_add v 1
  have j1 : jin (nI (v + 1)) len := jin_N (by omega) (by omega)
  have e2 : nI v + (2 : Int32) = nI (v + 2) := nI_add v 2
  have j2 : jin (nI (v + 2)) len := jin_N (by omega) (by omega)
  obtain ⟨y, I1, I2, q1, q2, c2, m2, t2, s2, g2⟩ := t_mode g (xs ((nI (v + 1))).toNatClampNeg) (xs ((nI (v + 2))).toNatClampNeg)
  rw [e1, e2, if_pos j1, if_pos j2, show X6_mode 1 (xs ((nI (v + 1))).toNatClampNeg) (xs ((nI (v + 2))).toNatClampNeg) I = some (y, I1) from q1, jb2_some, if_pos j1, if_pos j2, show X7_mode 164 (xs ((nI (v + 1))).toNatClampNeg) (xs ((nI (v + 2))).toNatClampNeg) I1 = some (y, I2) from q2, jb2_some, if_pos rfl]
  exact k _ _ _ _ _ _ g2
theorem b_tell (hv : v + 6 ≤ len) (hlen : len ≤ 3072) (hB : B + 32768 < 1073741824) (g : GG B cnt mode T S I L) (k : NXT len xs n v B) : (if jin ((nI v) + (1 : Int32)) len then (
if jin ((nI v) + (2 : Int32)) len then (
jb2 (X6_tell 1 (xs (((nI v) + (1 : Int32))).toNatClampNeg) (xs (((nI v) + (2 : Int32))).toNatClampNeg) I) (fun (y169 : Int32) (I170 : jI) =>
if jin ((nI v) + (1 : Int32)) len then (
if jin ((nI v) + (2 : Int32)) len then (
jb2 (X7_tell 164 (xs (((nI v) + (1 : Int32))).toNatClampNeg) (xs (((nI v) + (2 : Int32))).toNatClampNeg) I170) (fun (y174 : Int32) (I175 : jI) =>
if y169 = y174 then (
(fun (I7 : jI) (L8 : jL) => jfx (L_law_F1 len xs) (fun _ _ _ => none) n (nI v + (6 : Int32)) I7 L8) I175 L)
else (
none))) else none) else none)) else none) else none) = some () := by
  have e1 : nI v + (1 : Int32) = nI (v + 1) := nI_add v 1
  have j1 : jin (nI (v + 1)) len := jin_N (by omega) (by omega)
  have e2 : nI v + (2 : Int32) = nI (v + 2) := nI_add v 2
  have j2 : jin (nI (v + 2)) len := jin_N (by omega) (by omega)
  obtain ⟨y, I1, I2, q1, q2, c2, m2, t2, s2, g2⟩ := t_tell g (xs ((nI (v + 1))).toNatClampNeg) (xs ((nI (v + 2))).toNatClampNeg)
  rw [e1, e2, if_pos j1, if_pos j2, show X6_tell 1 (xs ((nI (v + 1))).toNatClampNeg) (xs ((nI (v + 2))).toNatClampNeg) I = some (y, I1) from q1, jb2_some, if_pos j1, if_pos j2, show X7_tell 164 (xs ((nI (v + 1))).toNatClampNeg) (xs ((nI (v + 2))).toNatClampNeg) I1 = some (y, I2) from q2, jb2_some, if_pos rfl]
  exact k _ _ _ _ _ _ g2
theorem b_read (hv : v + 6 ≤ len) (hlen : len ≤ 3072) (hB : B + 32768 < 1073741824) (g : GG B cnt mode T S I L) (k : NXT len xs n v B) : (if jin ((nI v) + (1 : Int32)) len then (
jb2 (X6_read 1 (xs (((nI v) + (1 : Int32))).toNatClampNeg) I) (fun (y180 : Int32) (I181 : jI) =>
if jin ((nI v) + (1 : Int32)) len then (
jb2 (X7_read 164 (xs (((nI v) + (1 : Int32))).toNatClampNeg) I181) (fun (y184 : Int32) (I185 : jI) =>
if y180 = y184 then (
(fun (I7 : jI) (L8 : jL) => jfx (L_law_F1 len xs) (fun _ _ _ => none) n (nI v + (6 : Int32)) I7 L8) I185 L)
else (
none))) else none)) else none) = some () := by
  have e1 : nI v + (1 : Int32) = nI (v + 1) := nI_add v 1
  have j1 : jin (nI (v + 1)) len := jin_N (by omega) (by omega)
  obtain ⟨y, I1, I2, q1, q2, c2, m2, t2, s2, g2⟩ := t_read g hB (xs ((nI (v + 1))).toNatClampNeg)
  rw [e1, if_pos j1, show X6_read 1 (xs ((nI (v + 1))).toNatClampNeg) I = some (y, I1) from q1, jb2_some, if_pos j1, show X7_read 164 (xs ((nI (v + 1))).toNatClampNeg) I1 = some (y, I2) from q2, jb2_some, if_pos rfl]
  exact k _ _ _ _ _ _ g2
theorem b_write (hv : v + 6 ≤ len) (hlen : len ≤ 3072) (hB : B + 32768 < 1073741824) (g : GG B cnt mode T S I L) (k : NXT len xs n v B) : (if jin ((nI v) + (1 : Int32)) len then (
if jin ((nI v) + (2 : Int32)) len then (
jb2 (X6_write 1 (xs (((nI v) + (1 : Int32))).toNatClampNeg) (xs (((nI v) + (2 : Int32))).toNatClampNeg) I) (fun (y191 : Int32) (I192 : jI) =>
if jin ((nI v) + (1 : Int32)) len then (
if jin ((nI v) + (2 : Int32)) len then (
jb2 (X7_write 164 (xs (((nI v) + (1 : Int32))).toNatClampNeg) (xs (((nI v) + (2 : Int32))).toNatClampNeg) I192) (fun (y196 : Int32) (I197 : jI) =>
if y191 = y196 then (
(fun (I7 : jI) (L8 : jL) => jfx (L_law_F1 len xs) (fun _ _ _ => none) n (nI v + (6 : Int32)) I7 L8) I197 L)
else (
none))) else none) else none)) else none) else none) = some () := by
  have e1 : nI v + (1 : Int32) = nI (v + 1) := nI_add v 1
  have j1 : jin (nI (v + 1)) len := jin_N (by omega) (by omega)
  have e2 : nI v + (2 : Int32) = nI (v + 2) := nI_add v 2
  have j2 : jin (nI (v + 2)) len := jin_N (by omega) (by omega)
  obtain ⟨y, I1, I2, q1, q2, c2, m2, t2, s2, g2⟩ := t_write g hB (xs ((nI (v + 1))).toNatClampNeg) (xs ((nI (v + 2))).toNatClampNeg)
  rw [e1, e2, if_pos j1, if_pos j2, show X6_write 1 (xs ((nI (v + 1))).toNatClampNeg) (xs ((nI (v + 2))).toNatClampNeg) I = some (y, I1) from q1, jb2_some, if_pos j1, if_pos j2, show X7_write 164 (xs ((nI (v + 1))).toNatClampNeg) (xs ((nI (v + 2))).toNatClampNeg) I1 = some (y, I2) from q2, jb2_some, if_pos rfl]
  exact k _ _ _ _ _ _ g2
theorem b_sweep (hv : v + 6 ≤ len) (hlen : len ≤ 3072) (hB : B + 32768 < 1073741824) (g : GG B cnt mode T S I L) (k : NXT len xs n v B) : (if jin ((nI v) + (1 : Int32)) len then (
jb2 (X6_sweep 1 (xs (((nI v) + (1 : Int32))).toNatClampNeg) I) (fun (y202 : Int32) (I203 : jI) =>
if jin ((nI v) + (1 : Int32)) len then (
jb2 (X7_sweep 164 (xs (((nI v) + (1 : Int32))).toNatClampNeg) I203) (fun (y206 : Int32) (I207 : jI) =>
if y202 = y206 then (
(fun (I7 : jI) (L8 : jL) => jfx (L_law_F1 len xs) (fun _ _ _ => none) n (nI v + (6 : Int32)) I7 L8) I207 L)
else (
none))) else none)) else none) = some () := by
  have e1 : nI v + (1 : Int32) = nI (v + 1) := nI_add v 1
  have j1 : jin (nI (v + 1)) len := jin_N (by omega) (by omega)
  obtain ⟨y, I1, I2, q1, q2, c2, m2, t2, s2, g2⟩ := t_sweep g (xs ((nI (v + 1))).toNatClampNeg)
  rw [e1, if_pos j1, show X6_sweep 1 (xs ((nI (v + 1))).toNatClampNeg) I = some (y, I1) from q1, jb2_some, if_pos j1, show X7_sweep 164 (xs ((nI (v + 1))).toNatClampNeg) I1 = some (y, I2) from q2, jb2_some, if_pos rfl]
  exact k _ _ _ _ _ _ g2
theorem b_clear (hv : v + 6 ≤ len) (hlen : len ≤ 3072) (hB : B + 32768 < 1073741824) (g : GG B cnt mode T S I L) (k : NXT len xs n v B) : (jb2 (X6_clear 1 I) (fun (y211 : Int32) (I212 : jI) =>
jb2 (X7_clear 164 I212) (fun (y214 : Int32) (I215 : jI) =>
if y211 = y214 then (
(fun (I7 : jI) (L8 : jL) => jfx (L_law_F1 len xs) (fun _ _ _ => none) n (nI v + (6 : Int32)) I7 L8) I215 L)
else (
none)))) = some () := by
  obtain ⟨y, I1, I2, q1, q2, c2, m2, t2, s2, g2⟩ := t_clear g 
  rw [show X6_clear 1  I = some (y, I1) from q1, jb2_some, show X7_clear 164  I1 = some (y, I2) from q2, jb2_some, if_pos rfl]
  exact k _ _ _ _ _ _ g2
theorem b_levelOf (hv : v + 6 ≤ len) (hlen : len ≤ 3072) (hB : B + 32768 < 1073741824) (g : GG B cnt mode T S I L) (k : NXT len xs n v B) : (if jin ((nI v) + (1 : Int32)) len then (
if jin ((nI v) + (2 : Int32)) len then (
jb2 (X6_levelOf 1 (xs (((nI v) + (1 : Int32))).toNatClampNeg) (xs (((nI v) + (2 : Int32))).toNatClampNeg) I) (fun (y221 : Int32) (I222 : jI) =>
if jin ((nI v) + (1 : Int32)) len then (
if jin ((nI v) + (2 : Int32)) len then (
jb2 (X7_levelOf 164 (xs (((nI v) + (1 : Int32))).toNatClampNeg) (xs (((nI v) + (2 : Int32))).toNatClampNeg) I222) (fun (y226 : Int32) (I227 : jI) =>
if y221 = y226 then (
(fun (I7 : jI) (L8 : jL) => jfx (L_law_F1 len xs) (fun _ _ _ => none) n (nI v + (6 : Int32)) I7 L8) I227 L)
else (
none))) else none) else none)) else none) else none) = some () := by
  have e1 : nI v + (1 : Int32) = nI (v + 1) := nI_add v 1
  have j1 : jin (nI (v + 1)) len := jin_N (by omega) (by omega)
  have e2 : nI v + (2 : Int32) = nI (v + 2) := nI_add v 2
  have j2 : jin (nI (v + 2)) len := jin_N (by omega) (by omega)
  obtain ⟨y, I1, I2, q1, q2, c2, m2, t2, s2, g2⟩ := t_levelOf g (xs ((nI (v + 1))).toNatClampNeg) (xs ((nI (v + 2))).toNatClampNeg)
  rw [e1, e2, if_pos j1, if_pos j2, show X6_levelOf 1 (xs ((nI (v + 1))).toNatClampNeg) (xs ((nI (v + 2))).toNatClampNeg) I = some (y, I1) from q1, jb2_some, if_pos j1, if_pos j2, show X7_levelOf 164 (xs ((nI (v + 1))).toNatClampNeg) (xs ((nI (v + 2))).toNatClampNeg) I1 = some (y, I2) from q2, jb2_some, if_pos rfl]
  exact k _ _ _ _ _ _ g2
theorem b_slot (hv : v + 6 ≤ len) (hlen : len ≤ 3072) (hB : B + 32768 < 1073741824) (g : GG B cnt mode T S I L) (k : NXT len xs n v B) : (if jin ((nI v) + (1 : Int32)) len then (
if jin ((nI v) + (2 : Int32)) len then (
if jin ((nI v) + (3 : Int32)) len then (
jb2 (X6_slot 1 (xs (((nI v) + (1 : Int32))).toNatClampNeg) (xs (((nI v) + (2 : Int32))).toNatClampNeg) (xs (((nI v) + (3 : Int32))).toNatClampNeg) I) (fun (y234 : Int32) (I235 : jI) =>
if jin ((nI v) + (1 : Int32)) len then (
if jin ((nI v) + (2 : Int32)) len then (
if jin ((nI v) + (3 : Int32)) len then (
jb2 (X7_slot 164 (xs (((nI v) + (1 : Int32))).toNatClampNeg) (xs (((nI v) + (2 : Int32))).toNatClampNeg) (xs (((nI v) + (3 : Int32))).toNatClampNeg) I235) (fun (y240 : Int32) (I241 : jI) =>
if y234 = y240 then (
(fun (I7 : jI) (L8 : jL) => jfx (L_law_F1 len xs) (fun _ _ _ => none) n (nI v + (6 : Int32)) I7 L8) I241 L)
else (
none))) else none) else none) else none)) else none) else none) else none) = some () := by
  have e1 : nI v + (1 : Int32) = nI (v + 1) := nI_add v 1
  have j1 : jin (nI (v + 1)) len := jin_N (by omega) (by omega)
  have e2 : nI v + (2 : Int32) = nI (v + 2) := nI_add v 2
  have j2 : jin (nI (v + 2)) len := jin_N (by omega) (by omega)
  have e3 : nI v + (3 : Int32) = nI (v + 3) := nI_add v 3
  have j3 : jin (nI (v + 3)) len := jin_N (by omega) (by omega)
  obtain ⟨y, I1, I2, q1, q2, c2, m2, t2, s2, g2⟩ := t_slot g (xs ((nI (v + 1))).toNatClampNeg) (xs ((nI (v + 2))).toNatClampNeg) (xs ((nI (v + 3))).toNatClampNeg)
  rw [e1, e2, e3, if_pos j1, if_pos j2, if_pos j3, show X6_slot 1 (xs ((nI (v + 1))).toNatClampNeg) (xs ((nI (v + 2))).toNatClampNeg) (xs ((nI (v + 3))).toNatClampNeg) I = some (y, I1) from q1, jb2_some, if_pos j1, if_pos j2, if_pos j3, show X7_slot 164 (xs ((nI (v + 1))).toNatClampNeg) (xs ((nI (v + 2))).toNatClampNeg) (xs ((nI (v + 3))).toNatClampNeg) I1 = some (y, I2) from q2, jb2_some, if_pos rfl]
  exact k _ _ _ _ _ _ g2
theorem b_value (hv : v + 6 ≤ len) (hlen : len ≤ 3072) (hB : B + 32768 < 1073741824) (g : GG B cnt mode T S I L) (k : NXT len xs n v B) : (if jin ((nI v) + (1 : Int32)) len then (
if jin ((nI v) + (2 : Int32)) len then (
jb2 (X6_value 1 (xs (((nI v) + (1 : Int32))).toNatClampNeg) (xs (((nI v) + (2 : Int32))).toNatClampNeg) I) (fun (y247 : Int32) (I248 : jI) =>
if jin ((nI v) + (1 : Int32)) len then (
if jin ((nI v) + (2 : Int32)) len then (
jb2 (X7_value 164 (xs (((nI v) + (1 : Int32))).toNatClampNeg) (xs (((nI v) + (2 : Int32))).toNatClampNeg) I248) (fun (y252 : Int32) (I253 : jI) =>
if y247 = y252 then (
(fun (I7 : jI) (L8 : jL) => jfx (L_law_F1 len xs) (fun _ _ _ => none) n (nI v + (6 : Int32)) I7 L8) I253 L)
else (
none))) else none) else none)) else none) else none) = some () := by
  have e1 : nI v + (1 : Int32) = nI (v + 1) := nI_add v 1
  have j1 : jin (nI (v + 1)) len := jin_N (by omega) (by omega)
  have e2 : nI v + (2 : Int32) = nI (v + 2) := nI_add v 2
  have j2 : jin (nI (v + 2)) len := jin_N (by omega) (by omega)
  obtain ⟨y, I1, I2, q1, q2, c2, m2, t2, s2, g2⟩ := t_value g (xs ((nI (v + 1))).toNatClampNeg) (xs ((nI (v + 2))).toNatClampNeg)
  rw [e1, e2, if_pos j1, if_pos j2, show X6_value 1 (xs ((nI (v + 1))).toNatClampNeg) (xs ((nI (v + 2))).toNatClampNeg) I = some (y, I1) from q1, jb2_some, if_pos j1, if_pos j2, show X7_value 164 (xs ((nI (v + 1))).toNatClampNeg) (xs ((nI (v + 2))).toNatClampNeg) I1 = some (y, I2) from q2, jb2_some, if_pos rfl]
  exact k _ _ _ _ _ _ g2
theorem b_where (hv : v + 6 ≤ len) (hlen : len ≤ 3072) (hB : B + 32768 < 1073741824) (g : GG B cnt mode T S I L) (k : NXT len xs n v B) : (if jin ((nI v) + (1 : Int32)) len then (
jb2 (X6_where 1 (xs (((nI v) + (1 : Int32))).toNatClampNeg) I) (fun (y258 : Int32) (I259 : jI) =>
if jin ((nI v) + (1 : Int32)) len then (
jb2 (X7_where 164 (xs (((nI v) + (1 : Int32))).toNatClampNeg) I259) (fun (y262 : Int32) (I263 : jI) =>
if y258 = y262 then (
(fun (I7 : jI) (L8 : jL) => jfx (L_law_F1 len xs) (fun _ _ _ => none) n (nI v + (6 : Int32)) I7 L8) I263 L)
else (
none))) else none)) else none) = some () := by
  have e1 : nI v + (1 : Int32) = nI (v + 1) := nI_add v 1
  have j1 : jin (nI (v + 1)) len := jin_N (by omega) (by omega)
  obtain ⟨y, I1, I2, q1, q2, c2, m2, t2, s2, g2⟩ := t_where g (xs ((nI (v + 1))).toNatClampNeg)
  rw [e1, if_pos j1, show X6_where 1 (xs ((nI (v + 1))).toNatClampNeg) I = some (y, I1) from q1, jb2_some, if_pos j1, show X7_where 164 (xs ((nI (v + 1))).toNatClampNeg) I1 = some (y, I2) from q2, jb2_some, if_pos rfl]
  exact k _ _ _ _ _ _ g2
theorem b_pages (hv : v + 6 ≤ len) (hlen : len ≤ 3072) (hB : B + 32768 < 1073741824) (g : GG B cnt mode T S I L) (k : NXT len xs n v B) : (if jin ((nI v) + (1 : Int32)) len then (
jb2 (X6_pages 1 (xs (((nI v) + (1 : Int32))).toNatClampNeg) I) (fun (y268 : Int64) (I269 : jI) =>
if jin ((nI v) + (1 : Int32)) len then (
jb2 (X7_pages 164 (xs (((nI v) + (1 : Int32))).toNatClampNeg) I269) (fun (y272 : Int64) (I273 : jI) =>
if (lg_cmp y268 y272) = 0 then (
(fun (I7 : jI) (L8 : jL) => jfx (L_law_F1 len xs) (fun _ _ _ => none) n (nI v + (6 : Int32)) I7 L8) I273 L)
else (
none))) else none)) else none) = some () := by
  have e1 : nI v + (1 : Int32) = nI (v + 1) := nI_add v 1
  have j1 : jin (nI (v + 1)) len := jin_N (by omega) (by omega)
  obtain ⟨y, I1, I2, q1, q2, c2, m2, t2, s2, g2⟩ := t_pages g (xs ((nI (v + 1))).toNatClampNeg)
  rw [e1, if_pos j1, show X6_pages 1 (xs ((nI (v + 1))).toNatClampNeg) I = some (y, I1) from q1, jb2_some, if_pos j1, show X7_pages 164 (xs ((nI (v + 1))).toNatClampNeg) I1 = some (y, I2) from q2, jb2_some, if_pos (cmp_self y)]
  exact k _ _ _ _ _ _ g2
theorem b_differ (hv : v + 6 ≤ len) (hlen : len ≤ 3072) (hB : B + 32768 < 1073741824) (g : GG B cnt mode T S I L) (k : NXT len xs n v B) : (if jin ((nI v) + (1 : Int32)) len then (
jb2 (X6_differ 1 (xs (((nI v) + (1 : Int32))).toNatClampNeg) I) (fun (y278 : Int64) (I279 : jI) =>
if jin ((nI v) + (1 : Int32)) len then (
jb2 (X7_differ 164 (xs (((nI v) + (1 : Int32))).toNatClampNeg) I279) (fun (y282 : Int64) (I283 : jI) =>
if (lg_cmp y278 y282) = 0 then (
(fun (I7 : jI) (L8 : jL) => jfx (L_law_F1 len xs) (fun _ _ _ => none) n (nI v + (6 : Int32)) I7 L8) I283 L)
else (
none))) else none)) else none) = some () := by
  have e1 : nI v + (1 : Int32) = nI (v + 1) := nI_add v 1
  have j1 : jin (nI (v + 1)) len := jin_N (by omega) (by omega)
  obtain ⟨y, I1, I2, q1, q2, c2, m2, t2, s2, g2⟩ := t_differ g (xs ((nI (v + 1))).toNatClampNeg)
  rw [e1, if_pos j1, show X6_differ 1 (xs ((nI (v + 1))).toNatClampNeg) I = some (y, I1) from q1, jb2_some, if_pos j1, show X7_differ 164 (xs ((nI (v + 1))).toNatClampNeg) I1 = some (y, I2) from q2, jb2_some, if_pos (cmp_self y)]
  exact k _ _ _ _ _ _ g2
theorem b_kept (hv : v + 6 ≤ len) (hlen : len ≤ 3072) (hB : B + 32768 < 1073741824) (g : GG B cnt mode T S I L) (k : NXT len xs n v B) : ((X6_kept 1 I).bind (fun (y287 : Int32) =>
(X7_kept 164 I).bind (fun (y289 : Int32) =>
if y287 = y289 then (
(fun (I7 : jI) (L8 : jL) => jfx (L_law_F1 len xs) (fun _ _ _ => none) n (nI v + (6 : Int32)) I7 L8) I L)
else (
none)))) = some () := by
  obtain ⟨y, q1, q2⟩ := t_kept g 
  rw [show X6_kept 1  I = some y from q1, ob_some, show X7_kept 164  I = some y from q2, ob_some, if_pos rfl]
  exact k _ _ _ _ _ _ (g.mono (by omega))
theorem b_would (hv : v + 6 ≤ len) (hlen : len ≤ 3072) (hB : B + 32768 < 1073741824) (g : GG B cnt mode T S I L) (k : NXT len xs n v B) : (if jin ((nI v) + (1 : Int32)) len then (
if jin ((nI v) + (2 : Int32)) len then (
jb2 (X6_would 1 (xs (((nI v) + (1 : Int32))).toNatClampNeg) (xs (((nI v) + (2 : Int32))).toNatClampNeg) I) (fun (y295 : Int32) (I296 : jI) =>
if jin ((nI v) + (1 : Int32)) len then (
if jin ((nI v) + (2 : Int32)) len then (
jb2 (X7_would 164 (xs (((nI v) + (1 : Int32))).toNatClampNeg) (xs (((nI v) + (2 : Int32))).toNatClampNeg) I296) (fun (y300 : Int32) (I301 : jI) =>
if y295 = y300 then (
(fun (I7 : jI) (L8 : jL) => jfx (L_law_F1 len xs) (fun _ _ _ => none) n (nI v + (6 : Int32)) I7 L8) I301 L)
else (
none))) else none) else none)) else none) else none) = some () := by
  have e1 : nI v + (1 : Int32) = nI (v + 1) := nI_add v 1
  have j1 : jin (nI (v + 1)) len := jin_N (by omega) (by omega)
  have e2 : nI v + (2 : Int32) = nI (v + 2) := nI_add v 2
  have j2 : jin (nI (v + 2)) len := jin_N (by omega) (by omega)
  obtain ⟨y, I1, I2, q1, q2, c2, m2, t2, s2, g2⟩ := t_would g hB (xs ((nI (v + 1))).toNatClampNeg) (xs ((nI (v + 2))).toNatClampNeg)
  rw [e1, e2, if_pos j1, if_pos j2, show X6_would 1 (xs ((nI (v + 1))).toNatClampNeg) (xs ((nI (v + 2))).toNatClampNeg) I = some (y, I1) from q1, jb2_some, if_pos j1, if_pos j2, show X7_would 164 (xs ((nI (v + 1))).toNatClampNeg) (xs ((nI (v + 2))).toNatClampNeg) I1 = some (y, I2) from q2, jb2_some, if_pos rfl]
  exact k _ _ _ _ _ _ g2
theorem b_plan (hv : v + 6 ≤ len) (hlen : len ≤ 3072) (hB : B + 32768 < 1073741824) (g : GG B cnt mode T S I L) (k : NXT len xs n v B) : (if jin ((nI v) + (1 : Int32)) len then (
if jin ((nI v) + (2 : Int32)) len then (
if jin ((nI v) + (3 : Int32)) len then (
jb2 (X6_plan 1 (xs (((nI v) + (1 : Int32))).toNatClampNeg) (xs (((nI v) + (2 : Int32))).toNatClampNeg) (xs (((nI v) + (3 : Int32))).toNatClampNeg) I L) (fun (y308 : Int32) (I309 : jI) =>
if jin ((nI v) + (1 : Int32)) len then (
if jin ((nI v) + (2 : Int32)) len then (
if jin ((nI v) + (3 : Int32)) len then (
jb2 (X7_plan 164 (xs (((nI v) + (1 : Int32))).toNatClampNeg) (xs (((nI v) + (2 : Int32))).toNatClampNeg) (xs (((nI v) + (3 : Int32))).toNatClampNeg) I309 L) (fun (y314 : Int32) (I315 : jI) =>
if y308 = y314 then (
(fun (I7 : jI) (L8 : jL) => jfx (L_law_F1 len xs) (fun _ _ _ => none) n (nI v + (6 : Int32)) I7 L8) I315 L)
else (
none))) else none) else none) else none)) else none) else none) else none) = some () := by
  have e1 : nI v + (1 : Int32) = nI (v + 1) := nI_add v 1
  have j1 : jin (nI (v + 1)) len := jin_N (by omega) (by omega)
  have e2 : nI v + (2 : Int32) = nI (v + 2) := nI_add v 2
  have j2 : jin (nI (v + 2)) len := jin_N (by omega) (by omega)
  have e3 : nI v + (3 : Int32) = nI (v + 3) := nI_add v 3
  have j3 : jin (nI (v + 3)) len := jin_N (by omega) (by omega)
  obtain ⟨y, I1, I2, q1, q2, c2, m2, t2, s2, g2⟩ := t_plan g hB (xs ((nI (v + 1))).toNatClampNeg) (xs ((nI (v + 2))).toNatClampNeg) (xs ((nI (v + 3))).toNatClampNeg)
  rw [e1, e2, e3, if_pos j1, if_pos j2, if_pos j3, show X6_plan 1 (xs ((nI (v + 1))).toNatClampNeg) (xs ((nI (v + 2))).toNatClampNeg) (xs ((nI (v + 3))).toNatClampNeg) I L = some (y, I1) from q1, jb2_some, if_pos j1, if_pos j2, if_pos j3, show X7_plan 164 (xs ((nI (v + 1))).toNatClampNeg) (xs ((nI (v + 2))).toNatClampNeg) (xs ((nI (v + 3))).toNatClampNeg) I1 L = some (y, I2) from q2, jb2_some, if_pos rfl]
  exact k _ _ _ _ _ _ g2
theorem b_rule (hv : v + 6 ≤ len) (hlen : len ≤ 3072) (hB : B + 32768 < 1073741824) (g : GG B cnt mode T S I L) (k : NXT len xs n v B) : (if jin ((nI v) + (1 : Int32)) len then (
if jin ((nI v) + (2 : Int32)) len then (
if jin ((nI v) + (3 : Int32)) len then (
jb2 (X6_rule 1 (xs (((nI v) + (1 : Int32))).toNatClampNeg) (xs (((nI v) + (2 : Int32))).toNatClampNeg) (xs (((nI v) + (3 : Int32))).toNatClampNeg) I L) (fun (y322 : Int32) (I323 : jI) =>
if jin ((nI v) + (1 : Int32)) len then (
if jin ((nI v) + (2 : Int32)) len then (
if jin ((nI v) + (3 : Int32)) len then (
jb2 (X7_rule 164 (xs (((nI v) + (1 : Int32))).toNatClampNeg) (xs (((nI v) + (2 : Int32))).toNatClampNeg) (xs (((nI v) + (3 : Int32))).toNatClampNeg) I323 L) (fun (y328 : Int32) (I329 : jI) =>
if y322 = y328 then (
(fun (I7 : jI) (L8 : jL) => jfx (L_law_F1 len xs) (fun _ _ _ => none) n (nI v + (6 : Int32)) I7 L8) I329 L)
else (
none))) else none) else none) else none)) else none) else none) else none) = some () := by
  have e1 : nI v + (1 : Int32) = nI (v + 1) := nI_add v 1
  have j1 : jin (nI (v + 1)) len := jin_N (by omega) (by omega)
  have e2 : nI v + (2 : Int32) = nI (v + 2) := nI_add v 2
  have j2 : jin (nI (v + 2)) len := jin_N (by omega) (by omega)
  have e3 : nI v + (3 : Int32) = nI (v + 3) := nI_add v 3
  have j3 : jin (nI (v + 3)) len := jin_N (by omega) (by omega)
  obtain ⟨y, I1, I2, q1, q2, c2, m2, t2, s2, g2⟩ := t_rule g hB (xs ((nI (v + 1))).toNatClampNeg) (xs ((nI (v + 2))).toNatClampNeg) (xs ((nI (v + 3))).toNatClampNeg)
  rw [e1, e2, e3, if_pos j1, if_pos j2, if_pos j3, show X6_rule 1 (xs ((nI (v + 1))).toNatClampNeg) (xs ((nI (v + 2))).toNatClampNeg) (xs ((nI (v + 3))).toNatClampNeg) I L = some (y, I1) from q1, jb2_some, if_pos j1, if_pos j2, if_pos j3, show X7_rule 164 (xs ((nI (v + 1))).toNatClampNeg) (xs ((nI (v + 2))).toNatClampNeg) (xs ((nI (v + 3))).toNatClampNeg) I1 L = some (y, I2) from q2, jb2_some, if_pos rfl]
  exact k _ _ _ _ _ _ g2
theorem b_size (hv : v + 6 ≤ len) (hlen : len ≤ 3072) (hB : B + 32768 < 1073741824) (g : GG B cnt mode T S I L) (k : NXT len xs n v B) : (if jin ((nI v) + (1 : Int32)) len then (
if jin ((nI v) + (2 : Int32)) len then (
if jin ((nI v) + (3 : Int32)) len then (
if jin ((nI v) + (4 : Int32)) len then (
jb2 (X6_size 1 (xs (((nI v) + (1 : Int32))).toNatClampNeg) (xs (((nI v) + (2 : Int32))).toNatClampNeg) (xs (((nI v) + (3 : Int32))).toNatClampNeg) (xs (((nI v) + (4 : Int32))).toNatClampNeg) I L) (fun (y337 : Int32) (I338 : jI) =>
if jin ((nI v) + (1 : Int32)) len then (
if jin ((nI v) + (2 : Int32)) len then (
if jin ((nI v) + (3 : Int32)) len then (
if jin ((nI v) + (4 : Int32)) len then (
jb2 (X7_size 164 (xs (((nI v) + (1 : Int32))).toNatClampNeg) (xs (((nI v) + (2 : Int32))).toNatClampNeg) (xs (((nI v) + (3 : Int32))).toNatClampNeg) (xs (((nI v) + (4 : Int32))).toNatClampNeg) I338 L) (fun (y344 : Int32) (I345 : jI) =>
if y337 = y344 then (
(fun (I7 : jI) (L8 : jL) => jfx (L_law_F1 len xs) (fun _ _ _ => none) n (nI v + (6 : Int32)) I7 L8) I345 L)
else (
none))) else none) else none) else none) else none)) else none) else none) else none) else none) = some () := by
  have e1 : nI v + (1 : Int32) = nI (v + 1) := nI_add v 1
  have j1 : jin (nI (v + 1)) len := jin_N (by omega) (by omega)
  have e2 : nI v + (2 : Int32) = nI (v + 2) := nI_add v 2
  have j2 : jin (nI (v + 2)) len := jin_N (by omega) (by omega)
  have e3 : nI v + (3 : Int32) = nI (v + 3) := nI_add v 3
  have j3 : jin (nI (v + 3)) len := jin_N (by omega) (by omega)
  have e4 : nI v + (4 : Int32) = nI (v + 4) := nI_add v 4
  have j4 : jin (nI (v + 4)) len := jin_N (by omega) (by omega)
  obtain ⟨y, I1, I2, q1, q2, c2, m2, t2, s2, g2⟩ := t_size g hB (xs ((nI (v + 1))).toNatClampNeg) (xs ((nI (v + 2))).toNatClampNeg) (xs ((nI (v + 3))).toNatClampNeg) (xs ((nI (v + 4))).toNatClampNeg)
  rw [e1, e2, e3, e4, if_pos j1, if_pos j2, if_pos j3, if_pos j4, show X6_size 1 (xs ((nI (v + 1))).toNatClampNeg) (xs ((nI (v + 2))).toNatClampNeg) (xs ((nI (v + 3))).toNatClampNeg) (xs ((nI (v + 4))).toNatClampNeg) I L = some (y, I1) from q1, jb2_some, if_pos j1, if_pos j2, if_pos j3, if_pos j4, show X7_size 164 (xs ((nI (v + 1))).toNatClampNeg) (xs ((nI (v + 2))).toNatClampNeg) (xs ((nI (v + 3))).toNatClampNeg) (xs ((nI (v + 4))).toNatClampNeg) I1 L = some (y, I2) from q2, jb2_some, if_pos rfl]
  exact k _ _ _ _ _ _ g2
theorem b_modes (hv : v + 6 ≤ len) (hlen : len ≤ 3072) (hB : B + 32768 < 1073741824) (g : GG B cnt mode T S I L) (k : NXT len xs n v B) : (if jin ((nI v) + (1 : Int32)) len then (
if jin ((nI v) + (2 : Int32)) len then (
jb2 (X6_modes 1 (xs (((nI v) + (1 : Int32))).toNatClampNeg) (xs (((nI v) + (2 : Int32))).toNatClampNeg) I L) (fun (y351 : Int32) (I352 : jI) =>
if jin ((nI v) + (1 : Int32)) len then (
if jin ((nI v) + (2 : Int32)) len then (
jb2 (X7_modes 164 (xs (((nI v) + (1 : Int32))).toNatClampNeg) (xs (((nI v) + (2 : Int32))).toNatClampNeg) I352 L) (fun (y356 : Int32) (I357 : jI) =>
if y351 = y356 then (
(fun (I7 : jI) (L8 : jL) => jfx (L_law_F1 len xs) (fun _ _ _ => none) n (nI v + (6 : Int32)) I7 L8) I357 L)
else (
none))) else none) else none)) else none) else none) = some () := by
  have e1 : nI v + (1 : Int32) = nI (v + 1) := nI_add v 1
  have j1 : jin (nI (v + 1)) len := jin_N (by omega) (by omega)
  have e2 : nI v + (2 : Int32) = nI (v + 2) := nI_add v 2
  have j2 : jin (nI (v + 2)) len := jin_N (by omega) (by omega)
  obtain ⟨y, I1, I2, q1, q2, c2, m2, t2, s2, g2⟩ := t_modes g hB (xs ((nI (v + 1))).toNatClampNeg) (xs ((nI (v + 2))).toNatClampNeg)
  rw [e1, e2, if_pos j1, if_pos j2, show X6_modes 1 (xs ((nI (v + 1))).toNatClampNeg) (xs ((nI (v + 2))).toNatClampNeg) I L = some (y, I1) from q1, jb2_some, if_pos j1, if_pos j2, show X7_modes 164 (xs ((nI (v + 1))).toNatClampNeg) (xs ((nI (v + 2))).toNatClampNeg) I1 L = some (y, I2) from q2, jb2_some, if_pos rfl]
  exact k _ _ _ _ _ _ g2
theorem b_foresight (hv : v + 6 ≤ len) (hlen : len ≤ 3072) (hB : B + 32768 < 1073741824) (g : GG B cnt mode T S I L) (k : NXT len xs n v B) : (if jin ((nI v) + (1 : Int32)) len then (
if jin ((nI v) + (2 : Int32)) len then (
if jin ((nI v) + (3 : Int32)) len then (
jb2 (X6_foresight 1 (xs (((nI v) + (1 : Int32))).toNatClampNeg) (xs (((nI v) + (2 : Int32))).toNatClampNeg) (xs (((nI v) + (3 : Int32))).toNatClampNeg) I L) (fun (y364 : Int32) (I365 : jI) =>
if jin ((nI v) + (1 : Int32)) len then (
if jin ((nI v) + (2 : Int32)) len then (
if jin ((nI v) + (3 : Int32)) len then (
jb2 (X7_foresight 164 (xs (((nI v) + (1 : Int32))).toNatClampNeg) (xs (((nI v) + (2 : Int32))).toNatClampNeg) (xs (((nI v) + (3 : Int32))).toNatClampNeg) I365 L) (fun (y370 : Int32) (I371 : jI) =>
if y364 = y370 then (
(fun (I7 : jI) (L8 : jL) => jfx (L_law_F1 len xs) (fun _ _ _ => none) n (nI v + (6 : Int32)) I7 L8) I371 L)
else (
none))) else none) else none) else none)) else none) else none) else none) = some () := by
  have e1 : nI v + (1 : Int32) = nI (v + 1) := nI_add v 1
  have j1 : jin (nI (v + 1)) len := jin_N (by omega) (by omega)
  have e2 : nI v + (2 : Int32) = nI (v + 2) := nI_add v 2
  have j2 : jin (nI (v + 2)) len := jin_N (by omega) (by omega)
  have e3 : nI v + (3 : Int32) = nI (v + 3) := nI_add v 3
  have j3 : jin (nI (v + 3)) len := jin_N (by omega) (by omega)
  obtain ⟨y, I1, I2, q1, q2, c2, m2, t2, s2, g2⟩ := t_foresight g (xs ((nI (v + 1))).toNatClampNeg) (xs ((nI (v + 2))).toNatClampNeg) (xs ((nI (v + 3))).toNatClampNeg)
  rw [e1, e2, e3, if_pos j1, if_pos j2, if_pos j3, show X6_foresight 1 (xs ((nI (v + 1))).toNatClampNeg) (xs ((nI (v + 2))).toNatClampNeg) (xs ((nI (v + 3))).toNatClampNeg) I L = some (y, I1) from q1, jb2_some, if_pos j1, if_pos j2, if_pos j3, show X7_foresight 164 (xs ((nI (v + 1))).toNatClampNeg) (xs ((nI (v + 2))).toNatClampNeg) (xs ((nI (v + 3))).toNatClampNeg) I1 L = some (y, I2) from q2, jb2_some, if_pos rfl]
  exact k _ _ _ _ _ _ g2
theorem b_reuse (hv : v + 6 ≤ len) (hlen : len ≤ 3072) (hB : B + 32768 < 1073741824) (g : GG B cnt mode T S I L) (k : NXT len xs n v B) : (if jin ((nI v) + (1 : Int32)) len then (
if jin ((nI v) + (2 : Int32)) len then (
if jin ((nI v) + (3 : Int32)) len then (
jb2 (X6_reuse 1 (xs (((nI v) + (1 : Int32))).toNatClampNeg) (xs (((nI v) + (2 : Int32))).toNatClampNeg) (xs (((nI v) + (3 : Int32))).toNatClampNeg) I L) (fun (y378 : Int32) (I379 : jI) =>
if jin ((nI v) + (1 : Int32)) len then (
if jin ((nI v) + (2 : Int32)) len then (
if jin ((nI v) + (3 : Int32)) len then (
jb2 (X7_reuse 164 (xs (((nI v) + (1 : Int32))).toNatClampNeg) (xs (((nI v) + (2 : Int32))).toNatClampNeg) (xs (((nI v) + (3 : Int32))).toNatClampNeg) I379 L) (fun (y384 : Int32) (I385 : jI) =>
if y378 = y384 then (
(fun (I7 : jI) (L8 : jL) => jfx (L_law_F1 len xs) (fun _ _ _ => none) n (nI v + (6 : Int32)) I7 L8) I385 L)
else (
none))) else none) else none) else none)) else none) else none) else none) = some () := by
  have e1 : nI v + (1 : Int32) = nI (v + 1) := nI_add v 1
  have j1 : jin (nI (v + 1)) len := jin_N (by omega) (by omega)
  have e2 : nI v + (2 : Int32) = nI (v + 2) := nI_add v 2
  have j2 : jin (nI (v + 2)) len := jin_N (by omega) (by omega)
  have e3 : nI v + (3 : Int32) = nI (v + 3) := nI_add v 3
  have j3 : jin (nI (v + 3)) len := jin_N (by omega) (by omega)
  obtain ⟨y, I1, I2, q1, q2, c2, m2, t2, s2, g2⟩ := t_reuse g (xs ((nI (v + 1))).toNatClampNeg) (xs ((nI (v + 2))).toNatClampNeg) (xs ((nI (v + 3))).toNatClampNeg)
  rw [e1, e2, e3, if_pos j1, if_pos j2, if_pos j3, show X6_reuse 1 (xs ((nI (v + 1))).toNatClampNeg) (xs ((nI (v + 2))).toNatClampNeg) (xs ((nI (v + 3))).toNatClampNeg) I L = some (y, I1) from q1, jb2_some, if_pos j1, if_pos j2, if_pos j3, show X7_reuse 164 (xs ((nI (v + 1))).toNatClampNeg) (xs ((nI (v + 2))).toNatClampNeg) (xs ((nI (v + 3))).toNatClampNeg) I1 L = some (y, I2) from q2, jb2_some, if_pos rfl]
  exact k _ _ _ _ _ _ g2
theorem b_rowOf (hv : v + 6 ≤ len) (hlen : len ≤ 3072) (hB : B + 32768 < 1073741824) (g : GG B cnt mode T S I L) (k : NXT len xs n v B) : (if jin ((nI v) + (1 : Int32)) len then (
if jin ((nI v) + (2 : Int32)) len then (
if jin ((nI v) + (3 : Int32)) len then (
jb2 (X6_rowOf 1 (xs (((nI v) + (1 : Int32))).toNatClampNeg) (xs (((nI v) + (2 : Int32))).toNatClampNeg) (xs (((nI v) + (3 : Int32))).toNatClampNeg) I L) (fun (y392 : Int32) (I393 : jI) =>
if jin ((nI v) + (1 : Int32)) len then (
if jin ((nI v) + (2 : Int32)) len then (
if jin ((nI v) + (3 : Int32)) len then (
jb2 (X7_rowOf 164 (xs (((nI v) + (1 : Int32))).toNatClampNeg) (xs (((nI v) + (2 : Int32))).toNatClampNeg) (xs (((nI v) + (3 : Int32))).toNatClampNeg) I393 L) (fun (y398 : Int32) (I399 : jI) =>
if y392 = y398 then (
(fun (I7 : jI) (L8 : jL) => jfx (L_law_F1 len xs) (fun _ _ _ => none) n (nI v + (6 : Int32)) I7 L8) I399 L)
else (
none))) else none) else none) else none)) else none) else none) else none) = some () := by
  have e1 : nI v + (1 : Int32) = nI (v + 1) := nI_add v 1
  have j1 : jin (nI (v + 1)) len := jin_N (by omega) (by omega)
  have e2 : nI v + (2 : Int32) = nI (v + 2) := nI_add v 2
  have j2 : jin (nI (v + 2)) len := jin_N (by omega) (by omega)
  have e3 : nI v + (3 : Int32) = nI (v + 3) := nI_add v 3
  have j3 : jin (nI (v + 3)) len := jin_N (by omega) (by omega)
  obtain ⟨y, I1, I2, q1, q2, c2, m2, t2, s2, g2⟩ := t_rowOf g (xs ((nI (v + 1))).toNatClampNeg) (xs ((nI (v + 2))).toNatClampNeg) (xs ((nI (v + 3))).toNatClampNeg)
  rw [e1, e2, e3, if_pos j1, if_pos j2, if_pos j3, show X6_rowOf 1 (xs ((nI (v + 1))).toNatClampNeg) (xs ((nI (v + 2))).toNatClampNeg) (xs ((nI (v + 3))).toNatClampNeg) I L = some (y, I1) from q1, jb2_some, if_pos j1, if_pos j2, if_pos j3, show X7_rowOf 164 (xs ((nI (v + 1))).toNatClampNeg) (xs ((nI (v + 2))).toNatClampNeg) (xs ((nI (v + 3))).toNatClampNeg) I1 L = some (y, I2) from q2, jb2_some, if_pos rfl]
  exact k _ _ _ _ _ _ g2
theorem b_judge (hv : v + 6 ≤ len) (hlen : len ≤ 3072) (hB : B + 32768 < 1073741824) (g : GG B cnt mode T S I L) (k : NXT len xs n v B) : (if jin ((nI v) + (1 : Int32)) len then (
if jin ((nI v) + (2 : Int32)) len then (
jb2 (X6_judge 1 (xs (((nI v) + (1 : Int32))).toNatClampNeg) (xs (((nI v) + (2 : Int32))).toNatClampNeg) I L) (fun (y405 : Int32) (I406 : jI) =>
if jin ((nI v) + (1 : Int32)) len then (
if jin ((nI v) + (2 : Int32)) len then (
jb2 (X7_judge 164 (xs (((nI v) + (1 : Int32))).toNatClampNeg) (xs (((nI v) + (2 : Int32))).toNatClampNeg) I406 L) (fun (y410 : Int32) (I411 : jI) =>
if y405 = y410 then (
(fun (I7 : jI) (L8 : jL) => jfx (L_law_F1 len xs) (fun _ _ _ => none) n (nI v + (6 : Int32)) I7 L8) I411 L)
else (
none))) else none) else none)) else none) else none) = some () := by
  have e1 : nI v + (1 : Int32) = nI (v + 1) := nI_add v 1
  have j1 : jin (nI (v + 1)) len := jin_N (by omega) (by omega)
  have e2 : nI v + (2 : Int32) = nI (v + 2) := nI_add v 2
  have j2 : jin (nI (v + 2)) len := jin_N (by omega) (by omega)
  obtain ⟨y, I1, I2, q1, q2, c2, m2, t2, s2, g2⟩ := t_judge g hB (xs ((nI (v + 1))).toNatClampNeg) (xs ((nI (v + 2))).toNatClampNeg)
  rw [e1, e2, if_pos j1, if_pos j2, show X6_judge 1 (xs ((nI (v + 1))).toNatClampNeg) (xs ((nI (v + 2))).toNatClampNeg) I L = some (y, I1) from q1, jb2_some, if_pos j1, if_pos j2, show X7_judge 164 (xs ((nI (v + 1))).toNatClampNeg) (xs ((nI (v + 2))).toNatClampNeg) I1 L = some (y, I2) from q2, jb2_some, if_pos rfl]
  exact k _ _ _ _ _ _ g2
theorem b_past (hv : v + 6 ≤ len) (hlen : len ≤ 3072) (hB : B + 32768 < 1073741824) (g : GG B cnt mode T S I L) (k : NXT len xs n v B) : (if jin ((nI v) + (1 : Int32)) len then (
if jin ((nI v) + (2 : Int32)) len then (
jb2 (X6_past 1 (xs (((nI v) + (1 : Int32))).toNatClampNeg) (xs (((nI v) + (2 : Int32))).toNatClampNeg) I) (fun (y417 : Int32) (I418 : jI) =>
if jin ((nI v) + (1 : Int32)) len then (
if jin ((nI v) + (2 : Int32)) len then (
jb2 (X7_past 164 (xs (((nI v) + (1 : Int32))).toNatClampNeg) (xs (((nI v) + (2 : Int32))).toNatClampNeg) I418) (fun (y422 : Int32) (I423 : jI) =>
if y417 = y422 then (
(fun (I7 : jI) (L8 : jL) => jfx (L_law_F1 len xs) (fun _ _ _ => none) n (nI v + (6 : Int32)) I7 L8) I423 L)
else (
none))) else none) else none)) else none) else none) = some () := by
  have e1 : nI v + (1 : Int32) = nI (v + 1) := nI_add v 1
  have j1 : jin (nI (v + 1)) len := jin_N (by omega) (by omega)
  have e2 : nI v + (2 : Int32) = nI (v + 2) := nI_add v 2
  have j2 : jin (nI (v + 2)) len := jin_N (by omega) (by omega)
  obtain ⟨y, I1, I2, q1, q2, c2, m2, t2, s2, g2⟩ := t_past g hB (xs ((nI (v + 1))).toNatClampNeg) (xs ((nI (v + 2))).toNatClampNeg)
  rw [e1, e2, if_pos j1, if_pos j2, show X6_past 1 (xs ((nI (v + 1))).toNatClampNeg) (xs ((nI (v + 2))).toNatClampNeg) I = some (y, I1) from q1, jb2_some, if_pos j1, if_pos j2, show X7_past 164 (xs ((nI (v + 1))).toNatClampNeg) (xs ((nI (v + 2))).toNatClampNeg) I1 = some (y, I2) from q2, jb2_some, if_pos rfl]
  exact k _ _ _ _ _ _ g2
theorem b_often (hv : v + 6 ≤ len) (hlen : len ≤ 3072) (hB : B + 32768 < 1073741824) (g : GG B cnt mode T S I L) (k : NXT len xs n v B) : (if jin ((nI v) + (1 : Int32)) len then (
jb2 (X6_often 1 (xs (((nI v) + (1 : Int32))).toNatClampNeg) I) (fun (y428 : Int32) (I429 : jI) =>
if jin ((nI v) + (1 : Int32)) len then (
jb2 (X7_often 164 (xs (((nI v) + (1 : Int32))).toNatClampNeg) I429) (fun (y432 : Int32) (I433 : jI) =>
if y428 = y432 then (
(fun (I7 : jI) (L8 : jL) => jfx (L_law_F1 len xs) (fun _ _ _ => none) n (nI v + (6 : Int32)) I7 L8) I433 L)
else (
none))) else none)) else none) = some () := by
  have e1 : nI v + (1 : Int32) = nI (v + 1) := nI_add v 1
  have j1 : jin (nI (v + 1)) len := jin_N (by omega) (by omega)
  obtain ⟨y, I1, I2, q1, q2, c2, m2, t2, s2, g2⟩ := t_often g (xs ((nI (v + 1))).toNatClampNeg)
  rw [e1, if_pos j1, show X6_often 1 (xs ((nI (v + 1))).toNatClampNeg) I = some (y, I1) from q1, jb2_some, if_pos j1, show X7_often 164 (xs ((nI (v + 1))).toNatClampNeg) I1 = some (y, I2) from q2, jb2_some, if_pos rfl]
  exact k _ _ _ _ _ _ g2
theorem b_days (hv : v + 6 ≤ len) (hlen : len ≤ 3072) (hB : B + 32768 < 1073741824) (g : GG B cnt mode T S I L) (k : NXT len xs n v B) : (if jin ((nI v) + (1 : Int32)) len then (
jb2 (X6_days 1 (xs (((nI v) + (1 : Int32))).toNatClampNeg) I) (fun (y438 : Int32) (I439 : jI) =>
if jin ((nI v) + (1 : Int32)) len then (
jb2 (X7_days 164 (xs (((nI v) + (1 : Int32))).toNatClampNeg) I439) (fun (y442 : Int32) (I443 : jI) =>
if y438 = y442 then (
(fun (I7 : jI) (L8 : jL) => jfx (L_law_F1 len xs) (fun _ _ _ => none) n (nI v + (6 : Int32)) I7 L8) I443 L)
else (
none))) else none)) else none) = some () := by
  have e1 : nI v + (1 : Int32) = nI (v + 1) := nI_add v 1
  have j1 : jin (nI (v + 1)) len := jin_N (by omega) (by omega)
  obtain ⟨y, I1, I2, q1, q2, c2, m2, t2, s2, g2⟩ := t_days g hB (xs ((nI (v + 1))).toNatClampNeg)
  rw [e1, if_pos j1, show X6_days 1 (xs ((nI (v + 1))).toNatClampNeg) I = some (y, I1) from q1, jb2_some, if_pos j1, show X7_days 164 (xs ((nI (v + 1))).toNatClampNeg) I1 = some (y, I2) from q2, jb2_some, if_pos rfl]
  exact k _ _ _ _ _ _ g2
theorem b_seed (hv : v + 6 ≤ len) (hlen : len ≤ 3072) (hB : B + 32768 < 1073741824) (g : GG B cnt mode T S I L) (k : NXT len xs n v B) : (if jin ((nI v) + (1 : Int32)) len then (
jb2 (X6_seed 1 (xs (((nI v) + (1 : Int32))).toNatClampNeg) I) (fun (y448 : Int32) (I449 : jI) =>
if jin ((nI v) + (1 : Int32)) len then (
jb2 (X7_seed 164 (xs (((nI v) + (1 : Int32))).toNatClampNeg) I449) (fun (y452 : Int32) (I453 : jI) =>
if y448 = y452 then (
(fun (I7 : jI) (L8 : jL) => jfx (L_law_F1 len xs) (fun _ _ _ => none) n (nI v + (6 : Int32)) I7 L8) I453 L)
else (
none))) else none)) else none) = some () := by
  have e1 : nI v + (1 : Int32) = nI (v + 1) := nI_add v 1
  have j1 : jin (nI (v + 1)) len := jin_N (by omega) (by omega)
  obtain ⟨y, I1, I2, q1, q2, c2, m2, t2, s2, g2⟩ := t_seed g (xs ((nI (v + 1))).toNatClampNeg)
  rw [e1, if_pos j1, show X6_seed 1 (xs ((nI (v + 1))).toNatClampNeg) I = some (y, I1) from q1, jb2_some, if_pos j1, show X7_seed 164 (xs ((nI (v + 1))).toNatClampNeg) I1 = some (y, I2) from q2, jb2_some, if_pos rfl]
  exact k _ _ _ _ _ _ g2
theorem b_image (hv : v + 6 ≤ len) (hlen : len ≤ 3072) (hB : B + 32768 < 1073741824) (g : GG B cnt mode T S I L) (k : NXT len xs n v B) : (jb2 (X6_image 1 I) (fun (y457 : Int32) (I458 : jI) =>
jb2 (X7_image 164 I458) (fun (y460 : Int32) (I461 : jI) =>
if y457 = y460 then (
(fun (I7 : jI) (L8 : jL) => jfx (L_law_F1 len xs) (fun _ _ _ => none) n (nI v + (6 : Int32)) I7 L8) I461 L)
else (
none)))) = some () := by
  obtain ⟨y, I1, I2, q1, q2, c2, m2, t2, s2, g2⟩ := t_image g 
  rw [show X6_image 1  I = some (y, I1) from q1, jb2_some, show X7_image 164  I1 = some (y, I2) from q2, jb2_some, if_pos rfl]
  exact k _ _ _ _ _ _ g2
theorem b_back (hv : v + 6 ≤ len) (hlen : len ≤ 3072) (hB : B + 32768 < 1073741824) (g : GG B cnt mode T S I L) (k : NXT len xs n v B) : (jb2 (X6_back 1 I) (fun (y465 : Int32) (I466 : jI) =>
jb2 (X7_back 164 I466) (fun (y468 : Int32) (I469 : jI) =>
if y465 = y468 then (
(fun (I7 : jI) (L8 : jL) => jfx (L_law_F1 len xs) (fun _ _ _ => none) n (nI v + (6 : Int32)) I7 L8) I469 L)
else (
none)))) = some () := by
  obtain ⟨y, I1, I2, q1, q2, c2, m2, t2, s2, g2⟩ := t_back g 
  rw [show X6_back 1  I = some (y, I1) from q1, jb2_some, show X7_back 164  I1 = some (y, I2) from q2, jb2_some, if_pos rfl]
  exact k _ _ _ _ _ _ g2
theorem b_status (hv : v + 6 ≤ len) (hlen : len ≤ 3072) (hB : B + 32768 < 1073741824) (g : GG B cnt mode T S I L) (k : NXT len xs n v B) : (if jin ((nI v) + (1 : Int32)) len then (
(X6_status 1 (xs (((nI v) + (1 : Int32))).toNatClampNeg) I).bind (fun (y474 : Int32) =>
if jin ((nI v) + (1 : Int32)) len then (
(X7_status 164 (xs (((nI v) + (1 : Int32))).toNatClampNeg) I).bind (fun (y477 : Int32) =>
if y474 = y477 then (
(fun (I7 : jI) (L8 : jL) => jfx (L_law_F1 len xs) (fun _ _ _ => none) n (nI v + (6 : Int32)) I7 L8) I L)
else (
none))) else none)) else none) = some () := by
  have e1 : nI v + (1 : Int32) = nI (v + 1) := nI_add v 1
  have j1 : jin (nI (v + 1)) len := jin_N (by omega) (by omega)
  obtain ⟨y, q1, q2⟩ := t_status g (xs ((nI (v + 1))).toNatClampNeg)
  rw [e1, if_pos j1, show X6_status 1 (xs ((nI (v + 1))).toNatClampNeg) I = some y from q1, ob_some, if_pos j1, show X7_status 164 (xs ((nI (v + 1))).toNatClampNeg) I = some y from q2, ob_some, if_pos rfl]
  exact k _ _ _ _ _ _ (g.mono (by omega))
end LAW
