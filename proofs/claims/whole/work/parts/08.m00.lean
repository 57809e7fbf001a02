def X0_takeFrom (t0 : Nat) (p0 : Nat) (I0 : jI) : Option (jI) :=
jlet (jup I0 t0 0 (I0 p0 0)) (fun (I1 : jI) =>
jlet (jup I1 t0 1 (I1 p0 1)) (fun (I2 : jI) =>
some I2))
set_option maxRecDepth 20000 in
set_option maxHeartbeats 4000000 in
theorem W_X0_takeFrom {Y : jY} {Z : jZ} {Qf : jI → State → Prop} (hz0 : Y.zf = false) (t0 : Nat) (ht0 : shC t0 = 1) (p0 : Nat) (hp0 : shC p0 = 1) (I0 : jI) (L0 : jL) (hX : jOK Y Z RX0 cX0_takeFrom 2 "takeFrom" none 1 80 0 0) (hQ : ∀ r : jI, Qf r = jQ Y Z 0 0 none NC shC rfC r L0) : J Y Z 2 Qf (X0_takeFrom t0 p0 I0) 0 [(0, jr t0), (1, jr p0)] [] 0 0 NC shC rfC I0 L0 := by
  unfold X0_takeFrom
  refine J_aload_n (pc := 0) hX 0 rfl dX0_takeFrom_0 ?_
  refine J_aload_n (pc := 1) hX 1 rfl dX0_takeFrom_1 ?_
  refine g_X0_9 (pc := 2) hX hp0 dX0_takeFrom_2 ?_
  refine p_X0_9 (pc := 5) hX ht0 dX0_takeFrom_5 (fun I1 => ?_)
  refine J_aload_n (pc := 8) hX 0 rfl dX0_takeFrom_8 ?_
  refine J_aload_n (pc := 9) hX 1 rfl dX0_takeFrom_9 ?_
  refine g_X0_15 (pc := 10) hX hp0 dX0_takeFrom_10 ?_
  refine p_X0_15 (pc := 13) hX ht0 dX0_takeFrom_13 (fun I2 => ?_)
  exact J_vret (pc := 16) hX (hQ _) dX0_takeFrom_16
theorem C_X0_takeFrom (Y : jY) (hz0 : Y.zf = false) (t0 : Nat) (ht0 : shC t0 = 1) (p0 : Nat) (hp0 : shC p0 = 1) (I0 : jI) (L0 : jL) (I1 : jI) (h : X0_takeFrom t0 p0 I0 = some I1) : jMet Y yX0_takeFrom cX0_takeFrom 2 none 1 80 0 0 [jr t0, jr p0] NC shC rfC I0 L0 none NC shC rfC I1 L0 :=
  jmet_of _ _ h (fun Z r => jQ Y Z 0 0 none NC shC rfC r L0) (fun _ => rfl) (by decide) (Nat.le_of_ble_eq_true rfl) (fun Z hX => W_X0_takeFrom hz0 t0 ht0 p0 hp0 I0 L0 hX (fun _ => rfl))
def X0_drawBelow (t0 : Nat) (p0 : Int32) (I0 : jI) : Option (Int32 × jI) :=
jlet (jup I0 t0 0 (((I0 t0 0) * (1103515245 : Int32)) + (12345 : Int32))) (fun (I1 : jI) =>
if p0 ≤ 0 then (
some ((0 : Int32), I1))
else (
if p0 = 0 then none else (
some ((jrem (jushr (I1 t0 0) (16 : Int32)) p0), I1))))
set_option maxRecDepth 20000 in
set_option maxHeartbeats 4000000 in
theorem W_X0_drawBelow {Y : jY} {Z : jZ} {Qf : Int32 × jI → State → Prop} (hz0 : Y.zf = false) (t0 : Nat) (ht0 : shC t0 = 1) (p0 : Int32) (I0 : jI) (L0 : jL) (hX : jOK Y Z RX0 cX0_drawBelow 2 "drawBelow" (some .int) 1 80 0 0) (hQ : ∀ r : Int32 × jI, Qf r = jQ Y Z 0 0 (some (ji r.1)) NC shC rfC r.2 L0) : J Y Z 2 Qf (X0_drawBelow t0 p0 I0) 0 [(0, jr t0), (1, ji p0)] [] 0 0 NC shC rfC I0 L0 := by
  unfold X0_drawBelow
  refine J_aload_n (pc := 0) hX 0 rfl dX0_drawBelow_0 ?_
  refine J_aload_n (pc := 1) hX 0 rfl dX0_drawBelow_1 ?_
  refine g_X0_9 (pc := 2) hX ht0 dX0_drawBelow_2 ?_
  refine J_ldc (pc := 5) hX q_X0_18 dX0_drawBelow_5 ?_
  refine J_imul (pc := 7) hX dX0_drawBelow_7 ?_
  refine J_sipush (pc := 8) hX (v := (12345 : Int32)) (by decide) dX0_drawBelow_8 ?_
  refine J_iadd (pc := 11) hX dX0_drawBelow_11 ?_
  refine p_X0_9 (pc := 12) hX ht0 dX0_drawBelow_12 (fun I1 => ?_)
  refine J_iload_n (pc := 15) hX 1 rfl dX0_drawBelow_15 ?_
  refine J_if_le (pc := 16) hX (tgt := 31) (by decide) dX0_drawBelow_16 (fun h2 => ?_) (fun h2 => ?_)
  · refine J_iconst (pc := 31) hX (v := (0 : Int32)) (by decide) dX0_drawBelow_31 ?_
    exact J_iret (pc := 32) hX (hQ _) dX0_drawBelow_32
  · refine J_aload_n (pc := 19) hX 0 rfl dX0_drawBelow_19 ?_
    refine g_X0_9 (pc := 20) hX ht0 dX0_drawBelow_20 ?_
    refine J_bipush (pc := 23) hX (v := (16 : Int32)) (by decide) dX0_drawBelow_23 ?_
    refine J_iushr (pc := 25) hX dX0_drawBelow_25 ?_
    refine J_iload_n (pc := 26) hX 1 rfl dX0_drawBelow_26 ?_
    refine J_irem (pc := 27) hX dX0_drawBelow_27 (fun h3 => ?_)
    refine J_goto (pc := 28) hX (tgt := 32) (by decide) dX0_drawBelow_28 ?_
    exact J_iret (pc := 32) hX (hQ _) dX0_drawBelow_32
theorem C_X0_drawBelow (Y : jY) (hz0 : Y.zf = false) (t0 : Nat) (ht0 : shC t0 = 1) (p0 : Int32) (I0 : jI) (L0 : jL) (r : Int32) (I1 : jI) (h : X0_drawBelow t0 p0 I0 = some (r, I1)) : jMet Y yX0_drawBelow cX0_drawBelow 2 (some .int) 1 80 0 0 [jr t0, ji p0] NC shC rfC I0 L0 (some (ji r)) NC shC rfC I1 L0 :=
  jmet_of _ _ h (fun Z r => jQ Y Z 0 0 (some (ji r.1)) NC shC rfC r.2 L0) (fun _ => rfl) (by decide) (Nat.le_of_ble_eq_true rfl) (fun Z hX => W_X0_drawBelow hz0 t0 ht0 p0 I0 L0 hX (fun _ => rfl))
def X0_drawPage (t0 : Nat) (I0 : jI) : Option (Int32 × jI) :=
jb2 (X0_drawBelow t0 (3 : Int32) I0) (fun (y1 : Int32) (I2 : jI) =>
if y1 = 0 then (
jb2 (X0_drawBelow t0 (64 : Int32) I2) (fun (y7 : Int32) (I8 : jI) =>
jlet (jup I8 t0 1 y7) (fun (I10 : jI) =>
some ((I10 t0 1), I10))))
else (
if (64 : Int32) = 0 then none else (
jlet (jup I2 t0 1 (jrem ((I2 t0 1) + (1 : Int32)) (64 : Int32))) (fun (I6 : jI) =>
some ((I6 t0 1), I6)))))
set_option maxRecDepth 20000 in
set_option maxHeartbeats 4000000 in
theorem W_X0_drawPage {Y : jY} {Z : jZ} {Qf : Int32 × jI → State → Prop} (hz0 : Y.zf = false) (t0 : Nat) (ht0 : shC t0 = 1) (I0 : jI) (L0 : jL) (hX : jOK Y Z RX0 cX0_drawPage 1 "drawPage" (some .int) 2 101 0 0) (hQ : ∀ r : Int32 × jI, Qf r = jQ Y Z 0 0 (some (ji r.1)) NC shC rfC r.2 L0) : J Y Z 1 Qf (X0_drawPage t0 I0) 0 [(0, jr t0)] [] 0 0 NC shC rfC I0 L0 := by
  unfold X0_drawPage
  refine J_aload_n (pc := 0) hX 0 rfl dX0_drawPage_0 ?_
  refine J_aload_n (pc := 1) hX 0 rfl dX0_drawPage_1 ?_
  refine J_iconst (pc := 2) hX (v := (3 : Int32)) (by decide) dX0_drawPage_2 ?_
  refine J_call2 (fun y1 I2 e3 => ?_)
  refine jrun_i (pc := 3) (jRunV hX s_X0_19 (ci := 0) (T := TX0) (N := 2) (As := [ji (3 : Int32)]) (rest := [jr t0]) rfl (by decide) (C_X0_drawBelow Y hz0 t0 ht0 (3 : Int32) I0 L0 y1 I2 e3) ht0 rfl rfl ⟨by decide, by decide⟩ ⟨Nat.le_of_ble_eq_true rfl, Nat.le_of_ble_eq_true rfl⟩ (Nat.le_of_ble_eq_true rfl) dX0_drawPage_3) ?_
  refine J_if_ne (pc := 6) hX (tgt := 18) (by decide) dX0_drawPage_6 (fun h4 => ?_) (fun h4 => ?_)
  · refine J_aload_n (pc := 18) hX 0 rfl dX0_drawPage_18 ?_
    refine g_X0_15 (pc := 19) hX ht0 dX0_drawPage_19 ?_
    refine J_iconst (pc := 22) hX (v := (1 : Int32)) (by decide) dX0_drawPage_22 ?_
    refine J_iadd (pc := 23) hX dX0_drawPage_23 ?_
    refine J_bipush (pc := 24) hX (v := (64 : Int32)) (by decide) dX0_drawPage_24 ?_
    refine J_irem (pc := 26) hX dX0_drawPage_26 (fun h5 => ?_)
    refine p_X0_15 (pc := 27) hX ht0 dX0_drawPage_27 (fun I6 => ?_)
    refine J_aload_n (pc := 30) hX 0 rfl dX0_drawPage_30 ?_
    refine g_X0_15 (pc := 31) hX ht0 dX0_drawPage_31 ?_
    exact J_iret (pc := 34) hX (hQ _) dX0_drawPage_34
  · refine J_aload_n (pc := 9) hX 0 rfl dX0_drawPage_9 ?_
    refine J_bipush (pc := 10) hX (v := (64 : Int32)) (by decide) dX0_drawPage_10 ?_
    refine J_call2 (fun y7 I8 e9 => ?_)
    refine jrun_i (pc := 12) (jRunV hX s_X0_19 (ci := 0) (T := TX0) (N := 2) (As := [ji (64 : Int32)]) (rest := [jr t0]) rfl (by decide) (C_X0_drawBelow Y hz0 t0 ht0 (64 : Int32) I2 L0 y7 I8 e9) ht0 rfl rfl ⟨by decide, by decide⟩ ⟨Nat.le_of_ble_eq_true rfl, Nat.le_of_ble_eq_true rfl⟩ (Nat.le_of_ble_eq_true rfl) dX0_drawPage_12) ?_
    refine J_goto (pc := 15) hX (tgt := 27) (by decide) dX0_drawPage_15 ?_
    refine p_X0_15 (pc := 27) hX ht0 dX0_drawPage_27 (fun I10 => ?_)
    refine J_aload_n (pc := 30) hX 0 rfl dX0_drawPage_30 ?_
    refine g_X0_15 (pc := 31) hX ht0 dX0_drawPage_31 ?_
    exact J_iret (pc := 34) hX (hQ _) dX0_drawPage_34
theorem C_X0_drawPage (Y : jY) (hz0 : Y.zf = false) (t0 : Nat) (ht0 : shC t0 = 1) (I0 : jI) (L0 : jL) (r : Int32) (I1 : jI) (h : X0_drawPage t0 I0 = some (r, I1)) : jMet Y yX0_drawPage cX0_drawPage 1 (some .int) 2 101 0 0 [jr t0] NC shC rfC I0 L0 (some (ji r)) NC shC rfC I1 L0 :=
  jmet_of _ _ h (fun Z r => jQ Y Z 0 0 (some (ji r.1)) NC shC rfC r.2 L0) (fun _ => rfl) (by decide) (Nat.le_of_ble_eq_true rfl) (fun Z hX => W_X0_drawPage hz0 t0 ht0 I0 L0 hX (fun _ => rfl))
def X1_takeFrom (t0 : Nat) (p0 : Nat) (I0 : jI) : Option (jI) :=
if jcp (0 : Int32) (0 : Int32) (20 : Int32) 20 20 then jlet (jrow I0 (rfC t0 0) (va_cpy (I0 (rfC p0 0)) (I0 (rfC t0 0)) ((0 : Int32)).toNatClampNeg ((0 : Int32)).toNatClampNeg ((20 : Int32)).toNatClampNeg)) (fun (I2 : jI) =>
if jcp (0 : Int32) (0 : Int32) (20 : Int32) 20 20 then jlet (jrow I2 (rfC t0 1) (va_cpy (I2 (rfC p0 1)) (I2 (rfC t0 1)) ((0 : Int32)).toNatClampNeg ((0 : Int32)).toNatClampNeg ((20 : Int32)).toNatClampNeg)) (fun (I4 : jI) =>
if jcp (0 : Int32) (0 : Int32) (20 : Int32) 20 20 then jlet (jrow I4 (rfC t0 2) (va_cpy (I4 (rfC p0 2)) (I4 (rfC t0 2)) ((0 : Int32)).toNatClampNeg ((0 : Int32)).toNatClampNeg ((20 : Int32)).toNatClampNeg)) (fun (I6 : jI) =>
if jcp (0 : Int32) (0 : Int32) (20 : Int32) 20 20 then jlet (jrow I6 (rfC t0 3) (va_cpy (I6 (rfC p0 3)) (I6 (rfC t0 3)) ((0 : Int32)).toNatClampNeg ((0 : Int32)).toNatClampNeg ((20 : Int32)).toNatClampNeg)) (fun (I8 : jI) =>
if jcp (0 : Int32) (0 : Int32) (64 : Int32) 64 64 then jlet (jrow I8 (rfC t0 4) (va_cpy (I8 (rfC p0 4)) (I8 (rfC t0 4)) ((0 : Int32)).toNatClampNeg ((0 : Int32)).toNatClampNeg ((64 : Int32)).toNatClampNeg)) (fun (I10 : jI) =>
some I10) else none) else none) else none) else none) else none
set_option maxRecDepth 20000 in
set_option maxHeartbeats 4000000 in
theorem W_X1_takeFrom {Y : jY} {Z : jZ} {Qf : jI → State → Prop} (hz0 : Y.zf = false) (t0 : Nat) (ht0 : shC t0 = 2) (p0 : Nat) (hp0 : shC p0 = 2) (I0 : jI) (L0 : jL) (hX : jOK Y Z RX1 cX1_takeFrom 2 "takeFrom" none 1 80 0 0) (hQ : ∀ r : jI, Qf r = jQ Y Z 0 0 none NC shC rfC r L0) : J Y Z 2 Qf (X1_takeFrom t0 p0 I0) 0 [(0, jr t0), (1, jr p0)] [] 0 0 NC shC rfC I0 L0 := by
  unfold X1_takeFrom
  refine J_aload_n (pc := 0) hX 1 rfl dX1_takeFrom_0 ?_
  refine g_X1_9 (pc := 1) hX hp0 dX1_takeFrom_1 ?_
  refine J_iconst (pc := 4) hX (v := (0 : Int32)) (by decide) dX1_takeFrom_4 ?_
  refine J_aload_n (pc := 5) hX 0 rfl dX1_takeFrom_5 ?_
  refine g_X1_9 (pc := 6) hX ht0 dX1_takeFrom_6 ?_
  refine J_iconst (pc := 9) hX (v := (0 : Int32)) (by decide) dX1_takeFrom_9 ?_
  refine J_bipush (pc := 10) hX (v := (20 : Int32)) (by decide) dX1_takeFrom_10 ?_
  refine J_copyi (pc := 12) hX hz0 a_X1_27 (n0 := 20) (n1 := 20) ⟨(fs_1_0 p0 hp0), by decide, by decide⟩ ⟨(fs_1_0 t0 ht0), by decide, by decide⟩ ⟨by decide, by decide⟩ (Nat.le_of_ble_eq_true rfl) dX1_takeFrom_12 (fun h1 I2 => ?_)
  refine J_aload_n (pc := 15) hX 1 rfl dX1_takeFrom_15 ?_
  refine g_X1_15 (pc := 16) hX hp0 dX1_takeFrom_16 ?_
  refine J_iconst (pc := 19) hX (v := (0 : Int32)) (by decide) dX1_takeFrom_19 ?_
  refine J_aload_n (pc := 20) hX 0 rfl dX1_takeFrom_20 ?_
  refine g_X1_15 (pc := 21) hX ht0 dX1_takeFrom_21 ?_
  refine J_iconst (pc := 24) hX (v := (0 : Int32)) (by decide) dX1_takeFrom_24 ?_
  refine J_bipush (pc := 25) hX (v := (20 : Int32)) (by decide) dX1_takeFrom_25 ?_
  refine J_copyi (pc := 27) hX hz0 a_X1_27 (n0 := 20) (n1 := 20) ⟨(fs_1_1 p0 hp0), by decide, by decide⟩ ⟨(fs_1_1 t0 ht0), by decide, by decide⟩ ⟨by decide, by decide⟩ (Nat.le_of_ble_eq_true rfl) dX1_takeFrom_27 (fun h3 I4 => ?_)
  refine J_aload_n (pc := 30) hX 1 rfl dX1_takeFrom_30 ?_
  refine g_X1_18 (pc := 31) hX hp0 dX1_takeFrom_31 ?_
  refine J_iconst (pc := 34) hX (v := (0 : Int32)) (by decide) dX1_takeFrom_34 ?_
  refine J_aload_n (pc := 35) hX 0 rfl dX1_takeFrom_35 ?_
  refine g_X1_18 (pc := 36) hX ht0 dX1_takeFrom_36 ?_
  refine J_iconst (pc := 39) hX (v := (0 : Int32)) (by decide) dX1_takeFrom_39 ?_
  refine J_bipush (pc := 40) hX (v := (20 : Int32)) (by decide) dX1_takeFrom_40 ?_
  refine J_copyi (pc := 42) hX hz0 a_X1_27 (n0 := 20) (n1 := 20) ⟨(fs_1_2 p0 hp0), by decide, by decide⟩ ⟨(fs_1_2 t0 ht0), by decide, by decide⟩ ⟨by decide, by decide⟩ (Nat.le_of_ble_eq_true rfl) dX1_takeFrom_42 (fun h5 I6 => ?_)
  refine J_aload_n (pc := 45) hX 1 rfl dX1_takeFrom_45 ?_
  refine g_X1_21 (pc := 46) hX hp0 dX1_takeFrom_46 ?_
  refine J_iconst (pc := 49) hX (v := (0 : Int32)) (by decide) dX1_takeFrom_49 ?_
  refine J_aload_n (pc := 50) hX 0 rfl dX1_takeFrom_50 ?_
  refine g_X1_21 (pc := 51) hX ht0 dX1_takeFrom_51 ?_
  refine J_iconst (pc := 54) hX (v := (0 : Int32)) (by decide) dX1_takeFrom_54 ?_
  refine J_bipush (pc := 55) hX (v := (20 : Int32)) (by decide) dX1_takeFrom_55 ?_
  refine J_copyi (pc := 57) hX hz0 a_X1_27 (n0 := 20) (n1 := 20) ⟨(fs_1_3 p0 hp0), by decide, by decide⟩ ⟨(fs_1_3 t0 ht0), by decide, by decide⟩ ⟨by decide, by decide⟩ (Nat.le_of_ble_eq_true rfl) dX1_takeFrom_57 (fun h7 I8 => ?_)
  refine J_aload_n (pc := 60) hX 1 rfl dX1_takeFrom_60 ?_
  refine g_X1_24 (pc := 61) hX hp0 dX1_takeFrom_61 ?_
  refine J_iconst (pc := 64) hX (v := (0 : Int32)) (by decide) dX1_takeFrom_64 ?_
  refine J_aload_n (pc := 65) hX 0 rfl dX1_takeFrom_65 ?_
  refine g_X1_24 (pc := 66) hX ht0 dX1_takeFrom_66 ?_
  refine J_iconst (pc := 69) hX (v := (0 : Int32)) (by decide) dX1_takeFrom_69 ?_
  refine J_bipush (pc := 70) hX (v := (64 : Int32)) (by decide) dX1_takeFrom_70 ?_
  refine J_copyi (pc := 72) hX hz0 a_X1_27 (n0 := 64) (n1 := 64) ⟨(fs_1_4 p0 hp0), by decide, by decide⟩ ⟨(fs_1_4 t0 ht0), by decide, by decide⟩ ⟨by decide, by decide⟩ (Nat.le_of_ble_eq_true rfl) dX1_takeFrom_72 (fun h9 I10 => ?_)
  exact J_vret (pc := 75) hX (hQ _) dX1_takeFrom_75
theorem C_X1_takeFrom (Y : jY) (hz0 : Y.zf = false) (t0 : Nat) (ht0 : shC t0 = 2) (p0 : Nat) (hp0 : shC p0 = 2) (I0 : jI) (L0 : jL) (I1 : jI) (h : X1_takeFrom t0 p0 I0 = some I1) : jMet Y yX1_takeFrom cX1_takeFrom 2 none 1 80 0 0 [jr t0, jr p0] NC shC rfC I0 L0 none NC shC rfC I1 L0 :=
  jmet_of _ _ h (fun Z r => jQ Y Z 0 0 none NC shC rfC r L0) (fun _ => rfl) (by decide) (Nat.le_of_ble_eq_true rfl) (fun Z hX => W_X1_takeFrom hz0 t0 ht0 p0 hp0 I0 L0 hX (fun _ => rfl))
def J9_floorMod_7cf53 (p0 : Int32) (p1 : Int32) : Option (Int32) :=
if p1 = 0 then none else (
jlet ((jrem p0 p1)) (fun (y2 : Int32) =>
if 0 ≤ (p0 ^^^ p1) then (
some y2)
else (
if y2 = 0 then (
some y2)
else (
some (y2 + p1)))))
set_option maxRecDepth 20000 in
set_option maxHeartbeats 4000000 in
theorem W_J9_floorMod_7cf53 {Y : jY} {Z : jZ} {Qf : Int32 → State → Prop} (hz0 : Y.zf = false) (p0 : Int32) (p1 : Int32) (I0 : jI) (L0 : jL) (hX : jOK Y Z RJ9 cJ9_floorMod_7cf53 3 "floorMod" (some .int) 1 80 0 0) (hQ : ∀ r : Int32, Qf r = jQ Y Z 0 0 (some (ji r)) NC shC rfC I0 L0) : J Y Z 3 Qf (J9_floorMod_7cf53 p0 p1) 0 [(0, ji p0), (1, ji p1)] [] 0 0 NC shC rfC I0 L0 := by
  unfold J9_floorMod_7cf53
  refine J_iload_n (pc := 0) hX 0 rfl dJ9_floorMod_7cf53_0 ?_
  refine J_iload_n (pc := 1) hX 1 rfl dJ9_floorMod_7cf53_1 ?_
  refine J_irem (pc := 2) hX dJ9_floorMod_7cf53_2 (fun h1 => ?_)
  refine J_leti (fun y2 => ?_)
  refine J_istore_n (pc := 3) hX (lo' := [(2, ji y2), (0, ji p0), (1, ji p1)]) (by decide) rfl dJ9_floorMod_7cf53_3 ?_
  refine J_iload_n (pc := 4) hX 1 rfl dJ9_floorMod_7cf53_4 ?_
  refine J_iload_n (pc := 5) hX 2 rfl dJ9_floorMod_7cf53_5 ?_
  refine J_ixor (pc := 6) hX dJ9_floorMod_7cf53_6 ?_
  refine J_if_ge (pc := 7) hX (tgt := 18) (by decide) dJ9_floorMod_7cf53_7 (fun h3 => ?_) (fun h3 => ?_)
  · refine J_iload_n (pc := 18) hX 0 rfl dJ9_floorMod_7cf53_18 ?_
    exact J_iret (pc := 19) hX (hQ _) dJ9_floorMod_7cf53_19
  · refine J_iload_n (pc := 10) hX 0 rfl dJ9_floorMod_7cf53_10 ?_
    refine J_if_eq (pc := 11) hX (tgt := 18) (by decide) dJ9_floorMod_7cf53_11 (fun h4 => ?_) (fun h4 => ?_)
    · refine J_iload_n (pc := 18) hX 0 rfl dJ9_floorMod_7cf53_18 ?_
      exact J_iret (pc := 19) hX (hQ _) dJ9_floorMod_7cf53_19
    · refine J_iload_n (pc := 14) hX 0 rfl dJ9_floorMod_7cf53_14 ?_
      refine J_iload_n (pc := 15) hX 2 rfl dJ9_floorMod_7cf53_15 ?_
      refine J_iadd (pc := 16) hX dJ9_floorMod_7cf53_16 ?_
      exact J_iret (pc := 17) hX (hQ _) dJ9_floorMod_7cf53_17
theorem C_J9_floorMod_7cf53 (Y : jY) (hz0 : Y.zf = false) (p0 : Int32) (p1 : Int32) (I0 : jI) (L0 : jL) (r : Int32) (h : J9_floorMod_7cf53 p0 p1 = some r) : jMet Y yJ9_floorMod_7cf53 cJ9_floorMod_7cf53 3 (some .int) 1 80 0 0 [ji p0, ji p1] NC shC rfC I0 L0 (some (ji r)) NC shC rfC I0 L0 :=
  jmet_ofF _ _ h (fun Z r => jQ Y Z 0 0 (some (ji r)) NC shC rfC I0 L0) (fun _ => rfl) (by decide +kernel) (Nat.le_of_ble_eq_true rfl) (fun Z hX => W_J9_floorMod_7cf53 hz0 p0 p1 I0 L0 hX (fun _ => rfl))
def X6_isWithin (p0 : Int32) (p1 : Int32) (p2 : Int32) : Option (Int32) :=
if p0 < p1 then (
some (0 : Int32))
else (
if p2 < p0 then (
some (0 : Int32))
else (
some (1 : Int32)))
set_option maxRecDepth 20000 in
set_option maxHeartbeats 4000000 in
theorem W_X6_isWithin {Y : jY} {Z : jZ} {Qf : Int32 → State → Prop} (hz0 : Y.zf = false) (p0 : Int32) (p1 : Int32) (p2 : Int32) (I0 : jI) (L0 : jL) (hX : jOK Y Z RX6 cX6_isWithin 3 "isWithin" (some .boolean) 1 80 0 0) (hQ : ∀ r : Int32, Qf r = jQ Y Z 0 0 (some (ji r)) NC shC rfC I0 L0) : J Y Z 3 Qf (X6_isWithin p0 p1 p2) 0 [(0, ji p0), (1, ji p1), (2, ji p2)] [] 0 0 NC shC rfC I0 L0 := by
  unfold X6_isWithin
  refine J_iload_n (pc := 0) hX 0 rfl dX6_isWithin_0 ?_
  refine J_iload_n (pc := 1) hX 1 rfl dX6_isWithin_1 ?_
  refine J_icmp_lt (pc := 2) hX (tgt := 14) (by decide) dX6_isWithin_2 (fun h1 => ?_) (fun h1 => ?_)
  · refine J_iconst (pc := 14) hX (v := (0 : Int32)) (by decide) dX6_isWithin_14 ?_
    exact J_zret (pc := 15) hX (by decide) (hQ _) dX6_isWithin_15
  · refine J_iload_n (pc := 5) hX 0 rfl dX6_isWithin_5 ?_
    refine J_iload_n (pc := 6) hX 2 rfl dX6_isWithin_6 ?_
    refine J_icmp_gt (pc := 7) hX (tgt := 14) (by decide) dX6_isWithin_7 (fun h2 => ?_) (fun h2 => ?_)
    · refine J_iconst (pc := 14) hX (v := (0 : Int32)) (by decide) dX6_isWithin_14 ?_
      exact J_zret (pc := 15) hX (by decide) (hQ _) dX6_isWithin_15
    · refine J_iconst (pc := 10) hX (v := (1 : Int32)) (by decide) dX6_isWithin_10 ?_
      refine J_goto (pc := 11) hX (tgt := 15) (by decide) dX6_isWithin_11 ?_
      exact J_zret (pc := 15) hX (by decide) (hQ _) dX6_isWithin_15
theorem C_X6_isWithin (Y : jY) (hz0 : Y.zf = false) (p0 : Int32) (p1 : Int32) (p2 : Int32) (I0 : jI) (L0 : jL) (r : Int32) (h : X6_isWithin p0 p1 p2 = some r) : jMet Y yX6_isWithin cX6_isWithin 3 (some .boolean) 1 80 0 0 [ji p0, ji p1, ji p2] NC shC rfC I0 L0 (some (ji r)) NC shC rfC I0 L0 :=
  jmet_of _ _ h (fun Z r => jQ Y Z 0 0 (some (ji r)) NC shC rfC I0 L0) (fun _ => rfl) (by decide) (Nat.le_of_ble_eq_true rfl) (fun Z hX => W_X6_isWithin hz0 p0 p1 p2 I0 L0 hX (fun _ => rfl))
def X6_isPage (p0 : Int32) : Option (Int32) :=
if p0 < 0 then (
some (0 : Int32))
else (
if (64 : Int32) ≤ p0 then (
some (0 : Int32))
else (
some (1 : Int32)))
set_option maxRecDepth 20000 in
set_option maxHeartbeats 4000000 in
theorem W_X6_isPage {Y : jY} {Z : jZ} {Qf : Int32 → State → Prop} (hz0 : Y.zf = false) (p0 : Int32) (I0 : jI) (L0 : jL) (hX : jOK Y Z RX6 cX6_isPage 1 "isPage" (some .boolean) 1 80 0 0) (hQ : ∀ r : Int32, Qf r = jQ Y Z 0 0 (some (ji r)) NC shC rfC I0 L0) : J Y Z 1 Qf (X6_isPage p0) 0 [(0, ji p0)] [] 0 0 NC shC rfC I0 L0 := by
  unfold X6_isPage
  refine J_iload_n (pc := 0) hX 0 rfl dX6_isPage_0 ?_
  refine J_if_lt (pc := 1) hX (tgt := 14) (by decide) dX6_isPage_1 (fun h1 => ?_) (fun h1 => ?_)
  · refine J_iconst (pc := 14) hX (v := (0 : Int32)) (by decide) dX6_isPage_14 ?_
    exact J_zret (pc := 15) hX (by decide) (hQ _) dX6_isPage_15
  · refine J_iload_n (pc := 4) hX 0 rfl dX6_isPage_4 ?_
    refine J_bipush (pc := 5) hX (v := (64 : Int32)) (by decide) dX6_isPage_5 ?_
    refine J_icmp_ge (pc := 7) hX (tgt := 14) (by decide) dX6_isPage_7 (fun h2 => ?_) (fun h2 => ?_)
    · refine J_iconst (pc := 14) hX (v := (0 : Int32)) (by decide) dX6_isPage_14 ?_
      exact J_zret (pc := 15) hX (by decide) (hQ _) dX6_isPage_15
    · refine J_iconst (pc := 10) hX (v := (1 : Int32)) (by decide) dX6_isPage_10 ?_
      refine J_goto (pc := 11) hX (tgt := 15) (by decide) dX6_isPage_11 ?_
      exact J_zret (pc := 15) hX (by decide) (hQ _) dX6_isPage_15
theorem C_X6_isPage (Y : jY) (hz0 : Y.zf = false) (p0 : Int32) (I0 : jI) (L0 : jL) (r : Int32) (h : X6_isPage p0 = some r) : jMet Y yX6_isPage cX6_isPage 1 (some .boolean) 1 80 0 0 [ji p0] NC shC rfC I0 L0 (some (ji r)) NC shC rfC I0 L0 :=
  jmet_of _ _ h (fun Z r => jQ Y Z 0 0 (some (ji r)) NC shC rfC I0 L0) (fun _ => rfl) (by decide) (Nat.le_of_ble_eq_true rfl) (fun Z hX => W_X6_isPage hz0 p0 I0 L0 hX (fun _ => rfl))
def X1_note (t0 : Nat) (p0 : Int32) (p1 : Int32) (p2 : Int32) (p3 : Int32) (p4 : Int32) (I0 : jI) : Option (jI) :=
(J9_floorMod_7cf53 p0 (20 : Int32)).bind (fun (y1 : Int32) =>
(X6_isWithin y1 (0 : Int32) (19 : Int32)).bind (fun (y3 : Int32) =>
jlet (fun (I5 : jI) =>
(X6_isPage p1).bind (fun (y7 : Int32) =>
if y7 = 0 then (
some I5)
else (
if jin p1 64 then (
if jin p1 64 then jlet (jup I5 (rfC t0 4) (p1).toNatClampNeg ((I5 (rfC t0 4) (p1).toNatClampNeg) + (1 : Int32))) (fun (I12 : jI) =>
some I12) else none) else none))) (fun (k6 : jI → Option (jI)) =>
if y3 = 0 then (
k6 I0)
else (
if jin y1 20 then jlet (jup I0 (rfC t0 0) (y1).toNatClampNeg p1) (fun (I15 : jI) =>
jlet (if p2 = 0 then (0 : Int32) else (1 : Int32)) (fun (y17 : Int32) =>
if jin y1 20 then jlet (jup I15 (rfC t0 1) (y1).toNatClampNeg y17) (fun (I19 : jI) =>
if jin y1 20 then jlet (jup I19 (rfC t0 2) (y1).toNatClampNeg p3) (fun (I21 : jI) =>
if jin y1 20 then jlet (jup I21 (rfC t0 3) (y1).toNatClampNeg p4) (fun (I23 : jI) =>
k6 I23) else none) else none) else none)) else none))))
set_option maxRecDepth 20000 in
set_option maxHeartbeats 4000000 in
theorem W_X1_note {Y : jY} {Z : jZ} {Qf : jI → State → Prop} (hz0 : Y.zf = false) (t0 : Nat) (ht0 : shC t0 = 2) (p0 : Int32) (p1 : Int32) (p2 : Int32) (p3 : Int32) (p4 : Int32) (I0 : jI) (L0 : jL) (hX : jOK Y Z RX1 cX1_note 7 "note" none 2 102 0 0) (hQ : ∀ r : jI, Qf r = jQ Y Z 0 0 none NC shC rfC r L0) : J Y Z 7 Qf (X1_note t0 p0 p1 p2 p3 p4 I0) 0 [(0, jr t0), (1, ji p0), (2, ji p1), (3, ji p2), (4, ji p3), (5, ji p4)] [] 0 0 NC shC rfC I0 L0 := by
  unfold X1_note
  refine J_iload_n (pc := 0) hX 1 rfl dX1_note_0 ?_
  refine J_bipush (pc := 1) hX (v := (20 : Int32)) (by decide) dX1_note_1 ?_
  refine J_call1 (fun y1 e2 => ?_)
  refine jrun_i (pc := 3) (jRunS hX s_X1_33 (As := [ji p0, ji (20 : Int32)]) (rest := []) (C_J9_floorMod_7cf53 Y hz0 p0 (20 : Int32) I0 L0 y1 e2) rfl rfl ⟨by decide, by decide⟩ ⟨Nat.le_of_ble_eq_true rfl, Nat.le_of_ble_eq_true rfl⟩ (Nat.le_of_ble_eq_true rfl) dX1_note_3) ?_
  refine J_istore (pc := 6) hX (lo' := [(6, ji y1), (0, jr t0), (1, ji p0), (2, ji p1), (3, ji p2), (4, ji p3), (5, ji p4)]) (by decide) rfl dX1_note_6 ?_
  refine J_iload (pc := 8) hX 0 rfl dX1_note_8 ?_
  refine J_iconst (pc := 10) hX (v := (0 : Int32)) (by decide) dX1_note_10 ?_
  refine J_bipush (pc := 11) hX (v := (19 : Int32)) (by decide) dX1_note_11 ?_
  refine J_call1 (fun y3 e4 => ?_)
  refine jrun_i (pc := 13) (jRunSN hX s_X1_39 (As := [ji y1, ji (0 : Int32), ji (19 : Int32)]) (rest := []) (C_X6_isWithin Y hz0 y1 (0 : Int32) (19 : Int32) I0 L0 y3 e4) rfl rfl ⟨by decide, by decide⟩ ⟨Nat.le_of_ble_eq_true rfl, Nat.le_of_ble_eq_true rfl⟩ (Nat.le_of_ble_eq_true rfl) dX1_note_13) ?_
  refine J_join (fun (k6 : jI → Option (jI)) => ∀ (I5 : jI), J Y Z 7 Qf (k6 I5) 61 [(0, jr t0), (2, ji p1)] [] 0 0 NC shC rfC I5 L0) ?_ (fun k6 hk6 => ?_)
  · intro I5
    try dsimp only
    refine J_iload_n (pc := 61) hX 1 rfl dX1_note_61 ?_
    refine J_call1 (fun y7 e8 => ?_)
    refine jrun_i (pc := 62) (jRunSN hX s_X1_43 (As := [ji p1]) (rest := []) (C_X6_isPage Y hz0 p1 I5 L0 y7 e8) rfl rfl ⟨by decide, by decide⟩ ⟨Nat.le_of_ble_eq_true rfl, Nat.le_of_ble_eq_true rfl⟩ (Nat.le_of_ble_eq_true rfl) dX1_note_62) ?_
    refine J_if_eq (pc := 65) hX (tgt := 78) (by decide) dX1_note_65 (fun h9 => ?_) (fun h9 => ?_)
    · exact J_vret (pc := 78) hX (hQ _) dX1_note_78
    · refine J_aload_n (pc := 68) hX 0 rfl dX1_note_68 ?_
      refine g_X1_24 (pc := 69) hX ht0 dX1_note_69 ?_
      refine J_iload_n (pc := 72) hX 1 rfl dX1_note_72 ?_
      refine J_dup2 (pc := 73) hX rfl rfl dX1_note_73 ?_
      refine J_iald (pc := 74) hX (N := 64) (fs_1_4 t0 ht0) (by decide) dX1_note_74 (fun h10 => ?_)
      refine J_iconst (pc := 75) hX (v := (1 : Int32)) (by decide) dX1_note_75 ?_
      refine J_iadd (pc := 76) hX dX1_note_76 ?_
      refine J_iast (pc := 77) hX (N := 64) (fs_1_4 t0 ht0) (by decide) dX1_note_77 (fun h11 I12 => ?_)
      exact J_vret (pc := 78) hX (hQ _) dX1_note_78
  refine J_if_eq (pc := 16) hX (tgt := 61) (by decide) dX1_note_16 (fun h13 => ?_) (fun h13 => ?_)
  · refine J_sub [1, 3] rfl ?_
    exact hk6 I0
  · refine J_aload_n (pc := 19) hX 1 rfl dX1_note_19 ?_
    refine g_X1_9 (pc := 20) hX ht0 dX1_note_20 ?_
    refine J_iload (pc := 23) hX 0 rfl dX1_note_23 ?_
    refine J_iload_n (pc := 25) hX 3 rfl dX1_note_25 ?_
    refine J_iast (pc := 26) hX (N := 20) (fs_1_0 t0 ht0) (by decide) dX1_note_26 (fun h14 I15 => ?_)
    refine J_aload_n (pc := 27) hX 1 rfl dX1_note_27 ?_
    refine g_X1_15 (pc := 28) hX ht0 dX1_note_28 ?_
    refine J_iload (pc := 31) hX 0 rfl dX1_note_31 ?_
    refine J_iload_n (pc := 33) hX 4 rfl dX1_note_33 ?_
    refine J_vjoin (fun kq (y17 : Int32) => J Y Z 7 Qf (kq) 42 [(6, ji y1), (0, jr t0), (1, ji p0), (2, ji p1), (3, ji p2), (4, ji p3), (5, ji p4)] [ji y17, ji y1, jr (rfC t0 1)] 0 0 NC shC rfC I15 L0) (fun y17 => ?_) (fun hj => ?_)
    · try dsimp only
      refine J_iast (pc := 42) hX (N := 20) (fs_1_1 t0 ht0) (by decide) dX1_note_42 (fun h18 I19 => ?_)
      refine J_aload_n (pc := 43) hX 1 rfl dX1_note_43 ?_
      refine g_X1_18 (pc := 44) hX ht0 dX1_note_44 ?_
      refine J_iload (pc := 47) hX 0 rfl dX1_note_47 ?_
      refine J_iload (pc := 49) hX 5 rfl dX1_note_49 ?_
      refine J_iast (pc := 51) hX (N := 20) (fs_1_2 t0 ht0) (by decide) dX1_note_51 (fun h20 I21 => ?_)
      refine J_aload_n (pc := 52) hX 1 rfl dX1_note_52 ?_
      refine g_X1_21 (pc := 53) hX ht0 dX1_note_53 ?_
      refine J_iload (pc := 56) hX 0 rfl dX1_note_56 ?_
      refine J_iload (pc := 58) hX 6 rfl dX1_note_58 ?_
      refine J_iast (pc := 60) hX (N := 20) (fs_1_3 t0 ht0) (by decide) dX1_note_60 (fun h22 I23 => ?_)
      refine J_sub [1, 3] rfl ?_
      exact hk6 I23
    try dsimp only at hj
    refine J_if_eqV (pc := 34) hX (tgt := 41) (by decide) dX1_note_34 (fun h16 => ?_) (fun h16 => ?_)
    · refine J_iconst (pc := 41) hX (v := (0 : Int32)) (by decide) dX1_note_41 ?_
      exact hj _
    · refine J_iconst (pc := 37) hX (v := (1 : Int32)) (by decide) dX1_note_37 ?_
      refine J_goto (pc := 38) hX (tgt := 42) (by decide) dX1_note_38 ?_
      exact hj _
theorem C_X1_note (Y : jY) (hz0 : Y.zf = false) (t0 : Nat) (ht0 : shC t0 = 2) (p0 : Int32) (p1 : Int32) (p2 : Int32) (p3 : Int32) (p4 : Int32) (I0 : jI) (L0 : jL) (I1 : jI) (h : X1_note t0 p0 p1 p2 p3 p4 I0 = some I1) : jMet Y yX1_note cX1_note 7 none 2 102 0 0 [jr t0, ji p0, ji p1, ji p2, ji p3, ji p4] NC shC rfC I0 L0 none NC shC rfC I1 L0 :=
  jmet_of _ _ h (fun Z r => jQ Y Z 0 0 none NC shC rfC r L0) (fun _ => rfl) (by decide) (Nat.le_of_ble_eq_true rfl) (fun Z hX => W_X1_note hz0 t0 ht0 p0 p1 p2 p3 p4 I0 L0 hX (fun _ => rfl))
def X1_tells (t0 : Nat) (p0 : Int32) (p1 : Int32) (I0 : jI) : Option (Int32) :=
(J9_floorMod_7cf53 p0 (20 : Int32)).bind (fun (y1 : Int32) =>
(X6_isWithin y1 (0 : Int32) (19 : Int32)).bind (fun (y3 : Int32) =>
if y3 = 0 then (
some (-1 : Int32))
else (
if p1 = (0 : Int32) then (
if jin y1 20 then (
some (I0 (rfC t0 0) (y1).toNatClampNeg)) else none)
else if p1 = (1 : Int32) then (
if jin y1 20 then (
some (I0 (rfC t0 1) (y1).toNatClampNeg)) else none)
else if p1 = (2 : Int32) then (
if jin y1 20 then (
some (I0 (rfC t0 2) (y1).toNatClampNeg)) else none)
else (
if jin y1 20 then (
some (I0 (rfC t0 3) (y1).toNatClampNeg)) else none))))
set_option maxRecDepth 20000 in
set_option maxHeartbeats 4000000 in
theorem W_X1_tells {Y : jY} {Z : jZ} {Qf : Int32 → State → Prop} (hz0 : Y.zf = false) (t0 : Nat) (ht0 : shC t0 = 2) (p0 : Int32) (p1 : Int32) (I0 : jI) (L0 : jL) (hX : jOK Y Z RX1 cX1_tells 4 "tells" (some .int) 2 102 0 0) (hQ : ∀ r : Int32, Qf r = jQ Y Z 0 0 (some (ji r)) NC shC rfC I0 L0) : J Y Z 4 Qf (X1_tells t0 p0 p1 I0) 0 [(0, jr t0), (1, ji p0), (2, ji p1)] [] 0 0 NC shC rfC I0 L0 := by
  unfold X1_tells
  refine J_iload_n (pc := 0) hX 1 rfl dX1_tells_0 ?_
  refine J_bipush (pc := 1) hX (v := (20 : Int32)) (by decide) dX1_tells_1 ?_
  refine J_call1 (fun y1 e2 => ?_)
  refine jrun_i (pc := 3) (jRunS hX s_X1_33 (As := [ji p0, ji (20 : Int32)]) (rest := []) (C_J9_floorMod_7cf53 Y hz0 p0 (20 : Int32) I0 L0 y1 e2) rfl rfl ⟨by decide, by decide⟩ ⟨Nat.le_of_ble_eq_true rfl, Nat.le_of_ble_eq_true rfl⟩ (Nat.le_of_ble_eq_true rfl) dX1_tells_3) ?_
  refine J_istore_n (pc := 6) hX (lo' := [(3, ji y1), (0, jr t0), (1, ji p0), (2, ji p1)]) (by decide) rfl dX1_tells_6 ?_
  refine J_iload_n (pc := 7) hX 0 rfl dX1_tells_7 ?_
  refine J_iconst (pc := 8) hX (v := (0 : Int32)) (by decide) dX1_tells_8 ?_
  refine J_bipush (pc := 9) hX (v := (19 : Int32)) (by decide) dX1_tells_9 ?_
  refine J_call1 (fun y3 e4 => ?_)
  refine jrun_i (pc := 11) (jRunSN hX s_X1_39 (As := [ji y1, ji (0 : Int32), ji (19 : Int32)]) (rest := []) (C_X6_isWithin Y hz0 y1 (0 : Int32) (19 : Int32) I0 L0 y3 e4) rfl rfl ⟨by decide, by decide⟩ ⟨Nat.le_of_ble_eq_true rfl, Nat.le_of_ble_eq_true rfl⟩ (Nat.le_of_ble_eq_true rfl) dX1_tells_11) ?_
  refine J_if_ne (pc := 14) hX (tgt := 19) (by decide) dX1_tells_14 (fun h5 => ?_) (fun h5 => ?_)
  · refine J_iload_n (pc := 19) hX 3 rfl dX1_tells_19 ?_
    refine J_swc (0 : Int32) (fun h6 => ?_) (fun h6 => ?_)
    · refine J_swIn (pc := 20) hX (tgt := 48) (off := 28) (0 : Int32) h6 (by decide) (by decide) rfl (by decide) dX1_tells_20 ?_
      refine J_aload_n (pc := 48) hX 1 rfl dX1_tells_48 ?_
      refine g_X1_9 (pc := 49) hX ht0 dX1_tells_49 ?_
      refine J_iload_n (pc := 52) hX 0 rfl dX1_tells_52 ?_
      refine J_iald (pc := 53) hX (N := 20) (fs_1_0 t0 ht0) (by decide) dX1_tells_53 (fun h7 => ?_)
      exact J_iret (pc := 54) hX (hQ _) dX1_tells_54
    refine J_swc (1 : Int32) (fun h8 => ?_) (fun h8 => ?_)
    · refine J_swIn (pc := 20) hX (tgt := 55) (off := 35) (1 : Int32) h8 (by decide) (by decide) rfl (by decide) dX1_tells_20 ?_
      refine J_aload_n (pc := 55) hX 1 rfl dX1_tells_55 ?_
      refine g_X1_15 (pc := 56) hX ht0 dX1_tells_56 ?_
      refine J_iload_n (pc := 59) hX 0 rfl dX1_tells_59 ?_
      refine J_iald (pc := 60) hX (N := 20) (fs_1_1 t0 ht0) (by decide) dX1_tells_60 (fun h9 => ?_)
      exact J_iret (pc := 61) hX (hQ _) dX1_tells_61
    refine J_swc (2 : Int32) (fun h10 => ?_) (fun h10 => ?_)
    · refine J_swIn (pc := 20) hX (tgt := 62) (off := 42) (2 : Int32) h10 (by decide) (by decide) rfl (by decide) dX1_tells_20 ?_
      refine J_aload_n (pc := 62) hX 1 rfl dX1_tells_62 ?_
      refine g_X1_18 (pc := 63) hX ht0 dX1_tells_63 ?_
      refine J_iload_n (pc := 66) hX 0 rfl dX1_tells_66 ?_
      refine J_iald (pc := 67) hX (N := 20) (fs_1_2 t0 ht0) (by decide) dX1_tells_67 (fun h11 => ?_)
      exact J_iret (pc := 68) hX (hQ _) dX1_tells_68
    refine J_swOut (pc := 20) hX (tgt := 69) (by decide) (jsw_2 (jsw_1 (b := 3) (2 : Int32) (jsw_1 (b := 2) (1 : Int32) (jsw_1 (b := 1) (0 : Int32) jsw_0 h6 (by decide) (by decide)) h8 (by decide) (by decide)) h10 (by decide) (by decide)) (by decide)) dX1_tells_20 ?_
    refine J_aload_n (pc := 69) hX 1 rfl dX1_tells_69 ?_
    refine g_X1_21 (pc := 70) hX ht0 dX1_tells_70 ?_
    refine J_iload_n (pc := 73) hX 0 rfl dX1_tells_73 ?_
    refine J_iald (pc := 74) hX (N := 20) (fs_1_3 t0 ht0) (by decide) dX1_tells_74 (fun h12 => ?_)
    exact J_iret (pc := 75) hX (hQ _) dX1_tells_75
  · refine J_iconst (pc := 17) hX (v := (-1 : Int32)) (by decide) dX1_tells_17 ?_
    exact J_iret (pc := 18) hX (hQ _) dX1_tells_18
theorem C_X1_tells (Y : jY) (hz0 : Y.zf = false) (t0 : Nat) (ht0 : shC t0 = 2) (p0 : Int32) (p1 : Int32) (I0 : jI) (L0 : jL) (r : Int32) (h : X1_tells t0 p0 p1 I0 = some r) : jMet Y yX1_tells cX1_tells 4 (some .int) 2 102 0 0 [jr t0, ji p0, ji p1] NC shC rfC I0 L0 (some (ji r)) NC shC rfC I0 L0 :=
  jmet_of _ _ h (fun Z r => jQ Y Z 0 0 (some (ji r)) NC shC rfC I0 L0) (fun _ => rfl) (by decide) (Nat.le_of_ble_eq_true rfl) (fun Z hX => W_X1_tells hz0 t0 ht0 p0 p1 I0 L0 hX (fun _ => rfl))
def X1_timesOf (t0 : Nat) (p0 : Int32) (I0 : jI) : Option (Int32) :=
(X6_isPage p0).bind (fun (y1 : Int32) =>
if y1 = 0 then (
some (0 : Int32))
else (
if jin p0 64 then (
some (I0 (rfC t0 4) (p0).toNatClampNeg)) else none))
set_option maxRecDepth 20000 in
set_option maxHeartbeats 4000000 in
theorem W_X1_timesOf {Y : jY} {Z : jZ} {Qf : Int32 → State → Prop} (hz0 : Y.zf = false) (t0 : Nat) (ht0 : shC t0 = 2) (p0 : Int32) (I0 : jI) (L0 : jL) (hX : jOK Y Z RX1 cX1_timesOf 2 "timesOf" (some .int) 2 100 0 0) (hQ : ∀ r : Int32, Qf r = jQ Y Z 0 0 (some (ji r)) NC shC rfC I0 L0) : J Y Z 2 Qf (X1_timesOf t0 p0 I0) 0 [(0, jr t0), (1, ji p0)] [] 0 0 NC shC rfC I0 L0 := by
  unfold X1_timesOf
  refine J_iload_n (pc := 0) hX 1 rfl dX1_timesOf_0 ?_
  refine J_call1 (fun y1 e2 => ?_)
  refine jrun_i (pc := 1) (jRunSN hX s_X1_43 (As := [ji p0]) (rest := []) (C_X6_isPage Y hz0 p0 I0 L0 y1 e2) rfl rfl ⟨by decide, by decide⟩ ⟨Nat.le_of_ble_eq_true rfl, Nat.le_of_ble_eq_true rfl⟩ (Nat.le_of_ble_eq_true rfl) dX1_timesOf_1) ?_
  refine J_if_eq (pc := 4) hX (tgt := 16) (by decide) dX1_timesOf_4 (fun h3 => ?_) (fun h3 => ?_)
  · refine J_iconst (pc := 16) hX (v := (0 : Int32)) (by decide) dX1_timesOf_16 ?_
    exact J_iret (pc := 17) hX (hQ _) dX1_timesOf_17
  · refine J_aload_n (pc := 7) hX 0 rfl dX1_timesOf_7 ?_
    refine g_X1_24 (pc := 8) hX ht0 dX1_timesOf_8 ?_
    refine J_iload_n (pc := 11) hX 1 rfl dX1_timesOf_11 ?_
    refine J_iald (pc := 12) hX (N := 64) (fs_1_4 t0 ht0) (by decide) dX1_timesOf_12 (fun h4 => ?_)
    refine J_goto (pc := 13) hX (tgt := 17) (by decide) dX1_timesOf_13 ?_
    exact J_iret (pc := 17) hX (hQ _) dX1_timesOf_17
theorem C_X1_timesOf (Y : jY) (hz0 : Y.zf = false) (t0 : Nat) (ht0 : shC t0 = 2) (p0 : Int32) (I0 : jI) (L0 : jL) (r : Int32) (h : X1_timesOf t0 p0 I0 = some r) : jMet Y yX1_timesOf cX1_timesOf 2 (some .int) 2 100 0 0 [jr t0, ji p0] NC shC rfC I0 L0 (some (ji r)) NC shC rfC I0 L0 :=
  jmet_of _ _ h (fun Z r => jQ Y Z 0 0 (some (ji r)) NC shC rfC I0 L0) (fun _ => rfl) (by decide) (Nat.le_of_ble_eq_true rfl) (fun Z hX => W_X1_timesOf hz0 t0 ht0 p0 I0 L0 hX (fun _ => rfl))
def X2_holdNothing_F1 (t0 : Nat) (g7 : Int32 → jI → Option (jI)) : Int32 → jI → Option (jI) := fun (v5 : Int32) (I6 : jI) =>
if (64 : Int32) ≤ v5 then (
some I6)
else (
if jin v5 64 then jlet (jup I6 (rfC t0 18) (v5).toNatClampNeg (-1 : Int32)) (fun (I10 : jI) =>
g7 (v5 + (1 : Int32)) I10) else none)
def X2_holdNothing_F2 (t0 : Nat) (k4 : jI → Option (jI)) (g13 : Int32 → jI → Option (jI)) : Int32 → jI → Option (jI) := fun (v11 : Int32) (I12 : jI) =>
if (16 : Int32) ≤ v11 then (
k4 I12)
else (
if jin v11 16 then jlet (jup I12 (rfC t0 11) (v11).toNatClampNeg (-1 : Int32)) (fun (I16 : jI) =>
if jin v11 16 then jlet (jup I16 (rfC t0 13) (v11).toNatClampNeg (jnz (0 : Int32))) (fun (I18 : jI) =>
if jin v11 16 then jlet (jup I18 (rfC t0 17) (v11).toNatClampNeg (jnz (0 : Int32))) (fun (I20 : jI) =>
g13 (v11 + (1 : Int32)) I20) else none) else none) else none)
def X2_holdNothing (t0 : Nat) (I0 : jI) : Option (jI) :=
jlet (jup I0 t0 3 (0 : Int32)) (fun (I1 : jI) =>
jlet (jup I1 t0 10 (0 : Int32)) (fun (I2 : jI) =>
jlet (fun (I3 : jI) =>
jfx (X2_holdNothing_F1 t0) (fun _ _ => none) 1000 (0 : Int32) I3) (fun (k4 : jI → Option (jI)) =>
jfx (X2_holdNothing_F2 t0 k4) (fun _ _ => none) 1000 (0 : Int32) I2)))
set_option maxRecDepth 20000 in
set_option maxHeartbeats 4000000 in
theorem W_X2_holdNothing {Y : jY} {Z : jZ} {Qf : jI → State → Prop} (hz0 : Y.zf = false) (t0 : Nat) (ht0 : shC t0 = 3) (I0 : jI) (L0 : jL) (hX : jOK Y Z RX2 cX2_holdNothing 2 "holdNothing" none 1 80 0 0) (hQ : ∀ r : jI, Qf r = jQ Y Z 0 0 none NC shC rfC r L0) : J Y Z 2 Qf (X2_holdNothing t0 I0) 0 [(0, jr t0)] [] 0 0 NC shC rfC I0 L0 := by
  unfold X2_holdNothing
  refine J_aload_n (pc := 0) hX 0 rfl dX2_holdNothing_0 ?_
  refine J_iconst (pc := 1) hX (v := (0 : Int32)) (by decide) dX2_holdNothing_1 ?_
  refine p_X2_68 (pc := 2) hX ht0 dX2_holdNothing_2 (fun I1 => ?_)
  refine J_aload_n (pc := 5) hX 0 rfl dX2_holdNothing_5 ?_
  refine J_iconst (pc := 6) hX (v := (0 : Int32)) (by decide) dX2_holdNothing_6 ?_
  refine p_X2_71 (pc := 7) hX ht0 dX2_holdNothing_7 (fun I2 => ?_)
  refine J_iconst (pc := 10) hX (v := (0 : Int32)) (by decide) dX2_holdNothing_10 ?_
  refine J_istore_n (pc := 11) hX (lo' := [(1, ji (0 : Int32)), (0, jr t0)]) (by decide) rfl dX2_holdNothing_11 ?_
  refine J_join (fun (k4 : jI → Option (jI)) => ∀ (I3 : jI), J Y Z 2 Qf (k4 I3) 45 [(0, jr t0)] [] 0 0 NC shC rfC I3 L0) ?_ (fun k4 hk4 => ?_)
  · intro I3
    try dsimp only
    refine J_iconst (pc := 45) hX (v := (0 : Int32)) (by decide) dX2_holdNothing_45 ?_
    refine J_istore_n (pc := 46) hX (lo' := [(1, ji (0 : Int32)), (0, jr t0)]) (by decide) rfl dX2_holdNothing_46 ?_
    have lhg7 : ∀ mq : Nat, ∀ (v5 : Int32) (I6 : jI), J Y Z 2 Qf (jfx (X2_holdNothing_F1 t0) (fun _ _ => none) mq v5 I6) 47 [(0, jr t0), (1, ji v5)] [] 0 0 NC shC rfC I6 L0 := by
      intro mq
      refine jfx_J (fun (_ : Nat) (g7 : Int32 → jI → Option (jI)) => ∀ (v5 : Int32) (I6 : jI), J Y Z 2 Qf (g7 v5 I6) 47 [(0, jr t0), (1, ji v5)] [] 0 0 NC shC rfC I6 L0) ?_ (fun _ g7 hg7 => ?_) mq
      · intro v5 I6
        exact J_none
      intro v5 I6
      unfold X2_holdNothing_F1
      try dsimp only
      refine J_iload_n (pc := 47) hX 1 rfl dX2_holdNothing_47 ?_
      refine J_bipush (pc := 48) hX (v := (64 : Int32)) (by decide) dX2_holdNothing_48 ?_
      refine J_icmp_ge (pc := 50) hX (tgt := 66) (by decide) dX2_holdNothing_50 (fun h8 => ?_) (fun h8 => ?_)
      · exact J_vret (pc := 66) hX (hQ _) dX2_holdNothing_66
      · refine J_aload_n (pc := 53) hX 0 rfl dX2_holdNothing_53 ?_
        refine g_X2_34 (pc := 54) hX ht0 dX2_holdNothing_54 ?_
        refine J_iload_n (pc := 57) hX 1 rfl dX2_holdNothing_57 ?_
        refine J_iconst (pc := 58) hX (v := (-1 : Int32)) (by decide) dX2_holdNothing_58 ?_
        refine J_iast (pc := 59) hX (N := 64) (fs_2_18 t0 ht0) (by decide) dX2_holdNothing_59 (fun h9 I10 => ?_)
        refine J_iinc (pc := 60) hX (v := (v5 + (1 : Int32))) (lo' := [(1, ji (v5 + (1 : Int32))), (0, jr t0)]) 1 rfl (by rfl) (by decide) rfl dX2_holdNothing_60 ?_
        refine J_goto (pc := 63) hX (tgt := 47) (by decide) dX2_holdNothing_63 ?_
        refine J_sub [1, 0] rfl ?_
        exact hg7 (v5 + (1 : Int32)) I10
    refine J_sub [1, 0] rfl ?_
    exact lhg7 1000 (0 : Int32) I3
  have lhg13 : ∀ mq : Nat, ∀ (v11 : Int32) (I12 : jI), J Y Z 2 Qf (jfx (X2_holdNothing_F2 t0 k4) (fun _ _ => none) mq v11 I12) 12 [(0, jr t0), (1, ji v11)] [] 0 0 NC shC rfC I12 L0 := by
    intro mq
    refine jfx_J (fun (_ : Nat) (g13 : Int32 → jI → Option (jI)) => ∀ (v11 : Int32) (I12 : jI), J Y Z 2 Qf (g13 v11 I12) 12 [(0, jr t0), (1, ji v11)] [] 0 0 NC shC rfC I12 L0) ?_ (fun _ g13 hg13 => ?_) mq
    · intro v11 I12
      exact J_none
    intro v11 I12
    unfold X2_holdNothing_F2
    try dsimp only
    refine J_iload_n (pc := 12) hX 1 rfl dX2_holdNothing_12 ?_
    refine J_bipush (pc := 13) hX (v := (16 : Int32)) (by decide) dX2_holdNothing_13 ?_
    refine J_icmp_ge (pc := 15) hX (tgt := 45) (by decide) dX2_holdNothing_15 (fun h14 => ?_) (fun h14 => ?_)
    · refine J_sub [0] rfl ?_
      exact hk4 I12
    · refine J_aload_n (pc := 18) hX 0 rfl dX2_holdNothing_18 ?_
      refine g_X2_9 (pc := 19) hX ht0 dX2_holdNothing_19 ?_
      refine J_iload_n (pc := 22) hX 1 rfl dX2_holdNothing_22 ?_
      refine J_iconst (pc := 23) hX (v := (-1 : Int32)) (by decide) dX2_holdNothing_23 ?_
      refine J_iast (pc := 24) hX (N := 16) (fs_2_11 t0 ht0) (by decide) dX2_holdNothing_24 (fun h15 I16 => ?_)
      refine J_aload_n (pc := 25) hX 0 rfl dX2_holdNothing_25 ?_
      refine g_X2_18 (pc := 26) hX ht0 dX2_holdNothing_26 ?_
      refine J_iload_n (pc := 29) hX 1 rfl dX2_holdNothing_29 ?_
      refine J_iconst (pc := 30) hX (v := (0 : Int32)) (by decide) dX2_holdNothing_30 ?_
      refine J_zast (pc := 31) hX (N := 16) (fs_2_13 t0 ht0) (by decide) dX2_holdNothing_31 (fun h17 I18 => ?_)
      refine J_aload_n (pc := 32) hX 0 rfl dX2_holdNothing_32 ?_
      refine g_X2_31 (pc := 33) hX ht0 dX2_holdNothing_33 ?_
      refine J_iload_n (pc := 36) hX 1 rfl dX2_holdNothing_36 ?_
      refine J_iconst (pc := 37) hX (v := (0 : Int32)) (by decide) dX2_holdNothing_37 ?_
      refine J_zast (pc := 38) hX (N := 16) (fs_2_17 t0 ht0) (by decide) dX2_holdNothing_38 (fun h19 I20 => ?_)
      refine J_iinc (pc := 39) hX (v := (v11 + (1 : Int32))) (lo' := [(1, ji (v11 + (1 : Int32))), (0, jr t0)]) 1 rfl (by rfl) (by decide) rfl dX2_holdNothing_39 ?_
      refine J_goto (pc := 42) hX (tgt := 12) (by decide) dX2_holdNothing_42 ?_
      refine J_sub [1, 0] rfl ?_
      exact hg13 (v11 + (1 : Int32)) I20
  refine J_sub [1, 0] rfl ?_
  exact lhg13 1000 (0 : Int32) I2
theorem C_X2_holdNothing (Y : jY) (hz0 : Y.zf = false) (t0 : Nat) (ht0 : shC t0 = 3) (I0 : jI) (L0 : jL) (I1 : jI) (h : X2_holdNothing t0 I0 = some I1) : jMet Y yX2_holdNothing cX2_holdNothing 2 none 1 80 0 0 [jr t0] NC shC rfC I0 L0 none NC shC rfC I1 L0 :=
  jmet_of _ _ h (fun Z r => jQ Y Z 0 0 none NC shC rfC r L0) (fun _ => rfl) (by decide) (Nat.le_of_ble_eq_true rfl) (fun Z hX => W_X2_holdNothing hz0 t0 ht0 I0 L0 hX (fun _ => rfl))
def X2_begin (t0 : Nat) (p0 : Int32) (p1 : Int32) (p2 : Int32) (I0 : jI) : Option (jI) :=
jlet (jup I0 t0 0 p0) (fun (I1 : jI) =>
jlet (jup I1 t0 1 p1) (fun (I2 : jI) =>
jlet (jup I2 t0 2 p2) (fun (I3 : jI) =>
jlet (jup I3 t0 4 (0 : Int32)) (fun (I4 : jI) =>
jlet (jup I4 t0 5 (0 : Int32)) (fun (I5 : jI) =>
jlet (jup I5 t0 6 (0 : Int32)) (fun (I6 : jI) =>
jlet (jup I6 t0 7 (0 : Int32)) (fun (I7 : jI) =>
jlet (jup I7 t0 8 (0 : Int32)) (fun (I8 : jI) =>
jlet (jup I8 t0 9 (0 : Int32)) (fun (I9 : jI) =>
(X2_holdNothing t0 I9).bind (fun (I10 : jI) =>
some I10))))))))))
set_option maxRecDepth 20000 in
set_option maxHeartbeats 4000000 in
theorem W_X2_begin {Y : jY} {Z : jZ} {Qf : jI → State → Prop} (hz0 : Y.zf = false) (t0 : Nat) (ht0 : shC t0 = 3) (p0 : Int32) (p1 : Int32) (p2 : Int32) (I0 : jI) (L0 : jL) (hX : jOK Y Z RX2 cX2_begin 4 "begin" none 2 101 0 0) (hQ : ∀ r : jI, Qf r = jQ Y Z 0 0 none NC shC rfC r L0) : J Y Z 4 Qf (X2_begin t0 p0 p1 p2 I0) 0 [(0, jr t0), (1, ji p0), (2, ji p1), (3, ji p2)] [] 0 0 NC shC rfC I0 L0 := by
  unfold X2_begin
  refine J_aload_n (pc := 0) hX 0 rfl dX2_begin_0 ?_
  refine J_iload_n (pc := 1) hX 1 rfl dX2_begin_1 ?_
  refine p_X2_37 (pc := 2) hX ht0 dX2_begin_2 (fun I1 => ?_)
  refine J_aload_n (pc := 5) hX 0 rfl dX2_begin_5 ?_
  refine J_iload_n (pc := 6) hX 2 rfl dX2_begin_6 ?_
  refine p_X2_41 (pc := 7) hX ht0 dX2_begin_7 (fun I2 => ?_)
  refine J_aload_n (pc := 10) hX 0 rfl dX2_begin_10 ?_
  refine J_iload_n (pc := 11) hX 3 rfl dX2_begin_11 ?_
  refine p_X2_44 (pc := 12) hX ht0 dX2_begin_12 (fun I3 => ?_)
  refine J_aload_n (pc := 15) hX 0 rfl dX2_begin_15 ?_
  refine J_iconst (pc := 16) hX (v := (0 : Int32)) (by decide) dX2_begin_16 ?_
  refine p_X2_47 (pc := 17) hX ht0 dX2_begin_17 (fun I4 => ?_)
  refine J_aload_n (pc := 20) hX 0 rfl dX2_begin_20 ?_
  refine J_iconst (pc := 21) hX (v := (0 : Int32)) (by decide) dX2_begin_21 ?_
  refine p_X2_50 (pc := 22) hX ht0 dX2_begin_22 (fun I5 => ?_)
  refine J_aload_n (pc := 25) hX 0 rfl dX2_begin_25 ?_
  refine J_iconst (pc := 26) hX (v := (0 : Int32)) (by decide) dX2_begin_26 ?_
  refine p_X2_53 (pc := 27) hX ht0 dX2_begin_27 (fun I6 => ?_)
  refine J_aload_n (pc := 30) hX 0 rfl dX2_begin_30 ?_
  refine J_iconst (pc := 31) hX (v := (0 : Int32)) (by decide) dX2_begin_31 ?_
  refine p_X2_56 (pc := 32) hX ht0 dX2_begin_32 (fun I7 => ?_)
  refine J_aload_n (pc := 35) hX 0 rfl dX2_begin_35 ?_
  refine J_iconst (pc := 36) hX (v := (0 : Int32)) (by decide) dX2_begin_36 ?_
  refine p_X2_59 (pc := 37) hX ht0 dX2_begin_37 (fun I8 => ?_)
  refine J_aload_n (pc := 40) hX 0 rfl dX2_begin_40 ?_
  refine J_iconst (pc := 41) hX (v := (0 : Int32)) (by decide) dX2_begin_41 ?_
  refine p_X2_62 (pc := 42) hX ht0 dX2_begin_42 (fun I9 => ?_)
  refine J_aload_n (pc := 45) hX 0 rfl dX2_begin_45 ?_
  refine J_call1 (fun I10 e11 => ?_)
  refine jrun_v (pc := 46) (jRunV hX s_X2_65 (ci := 2) (T := TX2) (N := 19) (As := []) (rest := []) rfl (by decide) (C_X2_holdNothing Y hz0 t0 ht0 I9 L0 I10 e11) ht0 rfl rfl ⟨by decide, by decide⟩ ⟨Nat.le_of_ble_eq_true rfl, Nat.le_of_ble_eq_true rfl⟩ (Nat.le_of_ble_eq_true rfl) dX2_begin_46) ?_
  exact J_vret (pc := 49) hX (hQ _) dX2_begin_49
theorem C_X2_begin (Y : jY) (hz0 : Y.zf = false) (t0 : Nat) (ht0 : shC t0 = 3) (p0 : Int32) (p1 : Int32) (p2 : Int32) (I0 : jI) (L0 : jL) (I1 : jI) (h : X2_begin t0 p0 p1 p2 I0 = some I1) : jMet Y yX2_begin cX2_begin 4 none 2 101 0 0 [jr t0, ji p0, ji p1, ji p2] NC shC rfC I0 L0 none NC shC rfC I1 L0 :=
  jmet_of _ _ h (fun Z r => jQ Y Z 0 0 none NC shC rfC r L0) (fun _ => rfl) (by decide) (Nat.le_of_ble_eq_true rfl) (fun Z hX => W_X2_begin hz0 t0 ht0 p0 p1 p2 I0 L0 hX (fun _ => rfl))
def X2_takeFrom_F1 (t0 : Nat) (p0 : Nat) (g26 : Int32 → jI → Option (jI)) : Int32 → jI → Option (jI) := fun (v24 : Int32) (I25 : jI) =>
if (16 : Int32) ≤ v24 then (
some I25)
else (
if jin v24 16 then (
if jin v24 16 then jlet (jup I25 (rfC t0 13) (v24).toNatClampNeg (jnz (I25 (rfC p0 13) (v24).toNatClampNeg))) (fun (I30 : jI) =>
if jin v24 16 then (
if jin v24 16 then jlet (jup I30 (rfC t0 17) (v24).toNatClampNeg (jnz (I30 (rfC p0 17) (v24).toNatClampNeg))) (fun (I33 : jI) =>
g26 (v24 + (1 : Int32)) I33) else none) else none) else none) else none)
def X2_takeFrom (t0 : Nat) (p0 : Nat) (I0 : jI) : Option (jI) :=
jlet (jup I0 t0 0 (I0 p0 0)) (fun (I1 : jI) =>
jlet (jup I1 t0 1 (I1 p0 1)) (fun (I2 : jI) =>
jlet (jup I2 t0 2 (I2 p0 2)) (fun (I3 : jI) =>
jlet (jup I3 t0 3 (I3 p0 3)) (fun (I4 : jI) =>
jlet (jup I4 t0 4 (I4 p0 4)) (fun (I5 : jI) =>
jlet (jup I5 t0 5 (I5 p0 5)) (fun (I6 : jI) =>
jlet (jup I6 t0 6 (I6 p0 6)) (fun (I7 : jI) =>
jlet (jup I7 t0 7 (I7 p0 7)) (fun (I8 : jI) =>
jlet (jup I8 t0 8 (I8 p0 8)) (fun (I9 : jI) =>
jlet (jup I9 t0 9 (I9 p0 9)) (fun (I10 : jI) =>
jlet (jup I10 t0 10 (I10 p0 10)) (fun (I11 : jI) =>
if jcp (0 : Int32) (0 : Int32) (16 : Int32) 16 16 then jlet (jrow I11 (rfC t0 11) (va_cpy (I11 (rfC p0 11)) (I11 (rfC t0 11)) ((0 : Int32)).toNatClampNeg ((0 : Int32)).toNatClampNeg ((16 : Int32)).toNatClampNeg)) (fun (I13 : jI) =>
if jcp (0 : Int32) (0 : Int32) (16 : Int32) 16 16 then jlet (jrow I13 (rfC t0 12) (va_cpy (I13 (rfC p0 12)) (I13 (rfC t0 12)) ((0 : Int32)).toNatClampNeg ((0 : Int32)).toNatClampNeg ((16 : Int32)).toNatClampNeg)) (fun (I15 : jI) =>
if jcp (0 : Int32) (0 : Int32) (16 : Int32) 16 16 then jlet (jrow I15 (rfC t0 14) (va_cpy (I15 (rfC p0 14)) (I15 (rfC t0 14)) ((0 : Int32)).toNatClampNeg ((0 : Int32)).toNatClampNeg ((16 : Int32)).toNatClampNeg)) (fun (I17 : jI) =>
if jcp (0 : Int32) (0 : Int32) (16 : Int32) 16 16 then jlet (jrow I17 (rfC t0 15) (va_cpy (I17 (rfC p0 15)) (I17 (rfC t0 15)) ((0 : Int32)).toNatClampNeg ((0 : Int32)).toNatClampNeg ((16 : Int32)).toNatClampNeg)) (fun (I19 : jI) =>
if jcp (0 : Int32) (0 : Int32) (16 : Int32) 16 16 then jlet (jrow I19 (rfC t0 16) (va_cpy (I19 (rfC p0 16)) (I19 (rfC t0 16)) ((0 : Int32)).toNatClampNeg ((0 : Int32)).toNatClampNeg ((16 : Int32)).toNatClampNeg)) (fun (I21 : jI) =>
if jcp (0 : Int32) (0 : Int32) (64 : Int32) 64 64 then jlet (jrow I21 (rfC t0 18) (va_cpy (I21 (rfC p0 18)) (I21 (rfC t0 18)) ((0 : Int32)).toNatClampNeg ((0 : Int32)).toNatClampNeg ((64 : Int32)).toNatClampNeg)) (fun (I23 : jI) =>
jfx (X2_takeFrom_F1 t0 p0) (fun _ _ => none) 1000 (0 : Int32) I23) else none) else none) else none) else none) else none) else none)))))))))))
set_option maxRecDepth 20000 in
set_option maxHeartbeats 4000000 in
theorem W_X2_takeFrom {Y : jY} {Z : jZ} {Qf : jI → State → Prop} (hz0 : Y.zf = false) (t0 : Nat) (ht0 : shC t0 = 3) (p0 : Nat) (hp0 : shC p0 = 3) (I0 : jI) (L0 : jL) (hX : jOK Y Z RX2 cX2_takeFrom 3 "takeFrom" none 1 80 0 0) (hQ : ∀ r : jI, Qf r = jQ Y Z 0 0 none NC shC rfC r L0) : J Y Z 3 Qf (X2_takeFrom t0 p0 I0) 0 [(0, jr t0), (1, jr p0)] [] 0 0 NC shC rfC I0 L0 := by
  unfold X2_takeFrom
  refine J_aload_n (pc := 0) hX 0 rfl dX2_takeFrom_0 ?_
  refine J_aload_n (pc := 1) hX 1 rfl dX2_takeFrom_1 ?_
  refine g_X2_37 (pc := 2) hX hp0 dX2_takeFrom_2 ?_
  refine p_X2_37 (pc := 5) hX ht0 dX2_takeFrom_5 (fun I1 => ?_)
  refine J_aload_n (pc := 8) hX 0 rfl dX2_takeFrom_8 ?_
  refine J_aload_n (pc := 9) hX 1 rfl dX2_takeFrom_9 ?_
  refine g_X2_41 (pc := 10) hX hp0 dX2_takeFrom_10 ?_
  refine p_X2_41 (pc := 13) hX ht0 dX2_takeFrom_13 (fun I2 => ?_)
  refine J_aload_n (pc := 16) hX 0 rfl dX2_takeFrom_16 ?_
  refine J_aload_n (pc := 17) hX 1 rfl dX2_takeFrom_17 ?_
  refine g_X2_44 (pc := 18) hX hp0 dX2_takeFrom_18 ?_
  refine p_X2_44 (pc := 21) hX ht0 dX2_takeFrom_21 (fun I3 => ?_)
  refine J_aload_n (pc := 24) hX 0 rfl dX2_takeFrom_24 ?_
  refine J_aload_n (pc := 25) hX 1 rfl dX2_takeFrom_25 ?_
  refine g_X2_68 (pc := 26) hX hp0 dX2_takeFrom_26 ?_
  refine p_X2_68 (pc := 29) hX ht0 dX2_takeFrom_29 (fun I4 => ?_)
  refine J_aload_n (pc := 32) hX 0 rfl dX2_takeFrom_32 ?_
  refine J_aload_n (pc := 33) hX 1 rfl dX2_takeFrom_33 ?_
  refine g_X2_47 (pc := 34) hX hp0 dX2_takeFrom_34 ?_
  refine p_X2_47 (pc := 37) hX ht0 dX2_takeFrom_37 (fun I5 => ?_)
  refine J_aload_n (pc := 40) hX 0 rfl dX2_takeFrom_40 ?_
  refine J_aload_n (pc := 41) hX 1 rfl dX2_takeFrom_41 ?_
  refine g_X2_50 (pc := 42) hX hp0 dX2_takeFrom_42 ?_
  refine p_X2_50 (pc := 45) hX ht0 dX2_takeFrom_45 (fun I6 => ?_)
  refine J_aload_n (pc := 48) hX 0 rfl dX2_takeFrom_48 ?_
  refine J_aload_n (pc := 49) hX 1 rfl dX2_takeFrom_49 ?_
  refine g_X2_53 (pc := 50) hX hp0 dX2_takeFrom_50 ?_
  refine p_X2_53 (pc := 53) hX ht0 dX2_takeFrom_53 (fun I7 => ?_)
  refine J_aload_n (pc := 56) hX 0 rfl dX2_takeFrom_56 ?_
  refine J_aload_n (pc := 57) hX 1 rfl dX2_takeFrom_57 ?_
  refine g_X2_56 (pc := 58) hX hp0 dX2_takeFrom_58 ?_
  refine p_X2_56 (pc := 61) hX ht0 dX2_takeFrom_61 (fun I8 => ?_)
  refine J_aload_n (pc := 64) hX 0 rfl dX2_takeFrom_64 ?_
  refine J_aload_n (pc := 65) hX 1 rfl dX2_takeFrom_65 ?_
  refine g_X2_59 (pc := 66) hX hp0 dX2_takeFrom_66 ?_
  refine p_X2_59 (pc := 69) hX ht0 dX2_takeFrom_69 (fun I9 => ?_)
  refine J_aload_n (pc := 72) hX 0 rfl dX2_takeFrom_72 ?_
  refine J_aload_n (pc := 73) hX 1 rfl dX2_takeFrom_73 ?_
  refine g_X2_62 (pc := 74) hX hp0 dX2_takeFrom_74 ?_
  refine p_X2_62 (pc := 77) hX ht0 dX2_takeFrom_77 (fun I10 => ?_)
  refine J_aload_n (pc := 80) hX 0 rfl dX2_takeFrom_80 ?_
  refine J_aload_n (pc := 81) hX 1 rfl dX2_takeFrom_81 ?_
  refine g_X2_71 (pc := 82) hX hp0 dX2_takeFrom_82 ?_
  refine p_X2_71 (pc := 85) hX ht0 dX2_takeFrom_85 (fun I11 => ?_)
  refine J_aload_n (pc := 88) hX 1 rfl dX2_takeFrom_88 ?_
  refine g_X2_9 (pc := 89) hX hp0 dX2_takeFrom_89 ?_
  refine J_iconst (pc := 92) hX (v := (0 : Int32)) (by decide) dX2_takeFrom_92 ?_
  refine J_aload_n (pc := 93) hX 0 rfl dX2_takeFrom_93 ?_
  refine g_X2_9 (pc := 94) hX ht0 dX2_takeFrom_94 ?_
  refine J_iconst (pc := 97) hX (v := (0 : Int32)) (by decide) dX2_takeFrom_97 ?_
  refine J_bipush (pc := 98) hX (v := (16 : Int32)) (by decide) dX2_takeFrom_98 ?_
  refine J_copyi (pc := 100) hX hz0 a_X2_74 (n0 := 16) (n1 := 16) ⟨(fs_2_11 p0 hp0), by decide, by decide⟩ ⟨(fs_2_11 t0 ht0), by decide, by decide⟩ ⟨by decide, by decide⟩ (Nat.le_of_ble_eq_true rfl) dX2_takeFrom_100 (fun h12 I13 => ?_)
  refine J_aload_n (pc := 103) hX 1 rfl dX2_takeFrom_103 ?_
  refine g_X2_15 (pc := 104) hX hp0 dX2_takeFrom_104 ?_
  refine J_iconst (pc := 107) hX (v := (0 : Int32)) (by decide) dX2_takeFrom_107 ?_
  refine J_aload_n (pc := 108) hX 0 rfl dX2_takeFrom_108 ?_
  refine g_X2_15 (pc := 109) hX ht0 dX2_takeFrom_109 ?_
  refine J_iconst (pc := 112) hX (v := (0 : Int32)) (by decide) dX2_takeFrom_112 ?_
  refine J_bipush (pc := 113) hX (v := (16 : Int32)) (by decide) dX2_takeFrom_113 ?_
  refine J_copyi (pc := 115) hX hz0 a_X2_74 (n0 := 16) (n1 := 16) ⟨(fs_2_12 p0 hp0), by decide, by decide⟩ ⟨(fs_2_12 t0 ht0), by decide, by decide⟩ ⟨by decide, by decide⟩ (Nat.le_of_ble_eq_true rfl) dX2_takeFrom_115 (fun h14 I15 => ?_)
  refine J_aload_n (pc := 118) hX 1 rfl dX2_takeFrom_118 ?_
  refine g_X2_22 (pc := 119) hX hp0 dX2_takeFrom_119 ?_
  refine J_iconst (pc := 122) hX (v := (0 : Int32)) (by decide) dX2_takeFrom_122 ?_
  refine J_aload_n (pc := 123) hX 0 rfl dX2_takeFrom_123 ?_
  refine g_X2_22 (pc := 124) hX ht0 dX2_takeFrom_124 ?_
  refine J_iconst (pc := 127) hX (v := (0 : Int32)) (by decide) dX2_takeFrom_127 ?_
  refine J_bipush (pc := 128) hX (v := (16 : Int32)) (by decide) dX2_takeFrom_128 ?_
  refine J_copyi (pc := 130) hX hz0 a_X2_74 (n0 := 16) (n1 := 16) ⟨(fs_2_14 p0 hp0), by decide, by decide⟩ ⟨(fs_2_14 t0 ht0), by decide, by decide⟩ ⟨by decide, by decide⟩ (Nat.le_of_ble_eq_true rfl) dX2_takeFrom_130 (fun h16 I17 => ?_)
  refine J_aload_n (pc := 133) hX 1 rfl dX2_takeFrom_133 ?_
  refine g_X2_25 (pc := 134) hX hp0 dX2_takeFrom_134 ?_
  refine J_iconst (pc := 137) hX (v := (0 : Int32)) (by decide) dX2_takeFrom_137 ?_
  refine J_aload_n (pc := 138) hX 0 rfl dX2_takeFrom_138 ?_
  refine g_X2_25 (pc := 139) hX ht0 dX2_takeFrom_139 ?_
  refine J_iconst (pc := 142) hX (v := (0 : Int32)) (by decide) dX2_takeFrom_142 ?_
  refine J_bipush (pc := 143) hX (v := (16 : Int32)) (by decide) dX2_takeFrom_143 ?_
  refine J_copyi (pc := 145) hX hz0 a_X2_74 (n0 := 16) (n1 := 16) ⟨(fs_2_15 p0 hp0), by decide, by decide⟩ ⟨(fs_2_15 t0 ht0), by decide, by decide⟩ ⟨by decide, by decide⟩ (Nat.le_of_ble_eq_true rfl) dX2_takeFrom_145 (fun h18 I19 => ?_)
  refine J_aload_n (pc := 148) hX 1 rfl dX2_takeFrom_148 ?_
  refine g_X2_28 (pc := 149) hX hp0 dX2_takeFrom_149 ?_
  refine J_iconst (pc := 152) hX (v := (0 : Int32)) (by decide) dX2_takeFrom_152 ?_
  refine J_aload_n (pc := 153) hX 0 rfl dX2_takeFrom_153 ?_
  refine g_X2_28 (pc := 154) hX ht0 dX2_takeFrom_154 ?_
  refine J_iconst (pc := 157) hX (v := (0 : Int32)) (by decide) dX2_takeFrom_157 ?_
  refine J_bipush (pc := 158) hX (v := (16 : Int32)) (by decide) dX2_takeFrom_158 ?_
  refine J_copyi (pc := 160) hX hz0 a_X2_74 (n0 := 16) (n1 := 16) ⟨(fs_2_16 p0 hp0), by decide, by decide⟩ ⟨(fs_2_16 t0 ht0), by decide, by decide⟩ ⟨by decide, by decide⟩ (Nat.le_of_ble_eq_true rfl) dX2_takeFrom_160 (fun h20 I21 => ?_)
  refine J_aload_n (pc := 163) hX 1 rfl dX2_takeFrom_163 ?_
  refine g_X2_34 (pc := 164) hX hp0 dX2_takeFrom_164 ?_
  refine J_iconst (pc := 167) hX (v := (0 : Int32)) (by decide) dX2_takeFrom_167 ?_
  refine J_aload_n (pc := 168) hX 0 rfl dX2_takeFrom_168 ?_
  refine g_X2_34 (pc := 169) hX ht0 dX2_takeFrom_169 ?_
  refine J_iconst (pc := 172) hX (v := (0 : Int32)) (by decide) dX2_takeFrom_172 ?_
  refine J_bipush (pc := 173) hX (v := (64 : Int32)) (by decide) dX2_takeFrom_173 ?_
  refine J_copyi (pc := 175) hX hz0 a_X2_74 (n0 := 64) (n1 := 64) ⟨(fs_2_18 p0 hp0), by decide, by decide⟩ ⟨(fs_2_18 t0 ht0), by decide, by decide⟩ ⟨by decide, by decide⟩ (Nat.le_of_ble_eq_true rfl) dX2_takeFrom_175 (fun h22 I23 => ?_)
  refine J_iconst (pc := 178) hX (v := (0 : Int32)) (by decide) dX2_takeFrom_178 ?_
  refine J_istore_n (pc := 179) hX (lo' := [(2, ji (0 : Int32)), (0, jr t0), (1, jr p0)]) (by decide) rfl dX2_takeFrom_179 ?_
  have lhg26 : ∀ mq : Nat, ∀ (v24 : Int32) (I25 : jI), J Y Z 3 Qf (jfx (X2_takeFrom_F1 t0 p0) (fun _ _ => none) mq v24 I25) 180 [(0, jr t0), (1, jr p0), (2, ji v24)] [] 0 0 NC shC rfC I25 L0 := by
    intro mq
    refine jfx_J (fun (_ : Nat) (g26 : Int32 → jI → Option (jI)) => ∀ (v24 : Int32) (I25 : jI), J Y Z 3 Qf (g26 v24 I25) 180 [(0, jr t0), (1, jr p0), (2, ji v24)] [] 0 0 NC shC rfC I25 L0) ?_ (fun _ g26 hg26 => ?_) mq
    · intro v24 I25
      exact J_none
    intro v24 I25
    unfold X2_takeFrom_F1
    try dsimp only
    refine J_iload_n (pc := 180) hX 2 rfl dX2_takeFrom_180 ?_
    refine J_bipush (pc := 181) hX (v := (16 : Int32)) (by decide) dX2_takeFrom_181 ?_
    refine J_icmp_ge (pc := 183) hX (tgt := 216) (by decide) dX2_takeFrom_183 (fun h27 => ?_) (fun h27 => ?_)
    · exact J_vret (pc := 216) hX (hQ _) dX2_takeFrom_216
    · refine J_aload_n (pc := 186) hX 0 rfl dX2_takeFrom_186 ?_
      refine g_X2_18 (pc := 187) hX ht0 dX2_takeFrom_187 ?_
      refine J_iload_n (pc := 190) hX 2 rfl dX2_takeFrom_190 ?_
      refine J_aload_n (pc := 191) hX 1 rfl dX2_takeFrom_191 ?_
      refine g_X2_18 (pc := 192) hX hp0 dX2_takeFrom_192 ?_
      refine J_iload_n (pc := 195) hX 2 rfl dX2_takeFrom_195 ?_
      refine J_zald (pc := 196) hX (N := 16) (fs_2_13 p0 hp0) (by decide) dX2_takeFrom_196 (fun h28 => ?_)
      refine J_zast (pc := 197) hX (N := 16) (fs_2_13 t0 ht0) (by decide) dX2_takeFrom_197 (fun h29 I30 => ?_)
      refine J_aload_n (pc := 198) hX 0 rfl dX2_takeFrom_198 ?_
      refine g_X2_31 (pc := 199) hX ht0 dX2_takeFrom_199 ?_
      refine J_iload_n (pc := 202) hX 2 rfl dX2_takeFrom_202 ?_
      refine J_aload_n (pc := 203) hX 1 rfl dX2_takeFrom_203 ?_
      refine g_X2_31 (pc := 204) hX hp0 dX2_takeFrom_204 ?_
      refine J_iload_n (pc := 207) hX 2 rfl dX2_takeFrom_207 ?_
      refine J_zald (pc := 208) hX (N := 16) (fs_2_17 p0 hp0) (by decide) dX2_takeFrom_208 (fun h31 => ?_)
      refine J_zast (pc := 209) hX (N := 16) (fs_2_17 t0 ht0) (by decide) dX2_takeFrom_209 (fun h32 I33 => ?_)
      refine J_iinc (pc := 210) hX (v := (v24 + (1 : Int32))) (lo' := [(2, ji (v24 + (1 : Int32))), (0, jr t0), (1, jr p0)]) 2 rfl (by rfl) (by decide) rfl dX2_takeFrom_210 ?_
      refine J_goto (pc := 213) hX (tgt := 180) (by decide) dX2_takeFrom_213 ?_
      refine J_sub [1, 2, 0] rfl ?_
      exact hg26 (v24 + (1 : Int32)) I33
  refine J_sub [1, 2, 0] rfl ?_
  exact lhg26 1000 (0 : Int32) I23
theorem C_X2_takeFrom (Y : jY) (hz0 : Y.zf = false) (t0 : Nat) (ht0 : shC t0 = 3) (p0 : Nat) (hp0 : shC p0 = 3) (I0 : jI) (L0 : jL) (I1 : jI) (h : X2_takeFrom t0 p0 I0 = some I1) : jMet Y yX2_takeFrom cX2_takeFrom 3 none 1 80 0 0 [jr t0, jr p0] NC shC rfC I0 L0 none NC shC rfC I1 L0 :=
  jmet_of _ _ h (fun Z r => jQ Y Z 0 0 none NC shC rfC r L0) (fun _ => rfl) (by decide) (Nat.le_of_ble_eq_true rfl) (fun Z hX => W_X2_takeFrom hz0 t0 ht0 p0 hp0 I0 L0 hX (fun _ => rfl))
def X2_isSlot (p0 : Int32) : Option (Int32) :=
if p0 < 0 then (
some (0 : Int32))
else (
if (16 : Int32) ≤ p0 then (
some (0 : Int32))
else (
some (1 : Int32)))
set_option maxRecDepth 20000 in
set_option maxHeartbeats 4000000 in
theorem W_X2_isSlot {Y : jY} {Z : jZ} {Qf : Int32 → State → Prop} (hz0 : Y.zf = false) (p0 : Int32) (I0 : jI) (L0 : jL) (hX : jOK Y Z RX2 cX2_isSlot 1 "isSlot" (some .boolean) 1 80 0 0) (hQ : ∀ r : Int32, Qf r = jQ Y Z 0 0 (some (ji r)) NC shC rfC I0 L0) : J Y Z 1 Qf (X2_isSlot p0) 0 [(0, ji p0)] [] 0 0 NC shC rfC I0 L0 := by
  unfold X2_isSlot
  refine J_iload_n (pc := 0) hX 0 rfl dX2_isSlot_0 ?_
  refine J_if_lt (pc := 1) hX (tgt := 14) (by decide) dX2_isSlot_1 (fun h1 => ?_) (fun h1 => ?_)
  · refine J_iconst (pc := 14) hX (v := (0 : Int32)) (by decide) dX2_isSlot_14 ?_
    exact J_zret (pc := 15) hX (by decide) (hQ _) dX2_isSlot_15
  · refine J_iload_n (pc := 4) hX 0 rfl dX2_isSlot_4 ?_
    refine J_bipush (pc := 5) hX (v := (16 : Int32)) (by decide) dX2_isSlot_5 ?_
    refine J_icmp_ge (pc := 7) hX (tgt := 14) (by decide) dX2_isSlot_7 (fun h2 => ?_) (fun h2 => ?_)
    · refine J_iconst (pc := 14) hX (v := (0 : Int32)) (by decide) dX2_isSlot_14 ?_
      exact J_zret (pc := 15) hX (by decide) (hQ _) dX2_isSlot_15
    · refine J_iconst (pc := 10) hX (v := (1 : Int32)) (by decide) dX2_isSlot_10 ?_
      refine J_goto (pc := 11) hX (tgt := 15) (by decide) dX2_isSlot_11 ?_
      exact J_zret (pc := 15) hX (by decide) (hQ _) dX2_isSlot_15
theorem C_X2_isSlot (Y : jY) (hz0 : Y.zf = false) (p0 : Int32) (I0 : jI) (L0 : jL) (r : Int32) (h : X2_isSlot p0 = some r) : jMet Y yX2_isSlot cX2_isSlot 1 (some .boolean) 1 80 0 0 [ji p0] NC shC rfC I0 L0 (some (ji r)) NC shC rfC I0 L0 :=
  jmet_of _ _ h (fun Z r => jQ Y Z 0 0 (some (ji r)) NC shC rfC I0 L0) (fun _ => rfl) (by decide) (Nat.le_of_ble_eq_true rfl) (fun Z hX => W_X2_isSlot hz0 p0 I0 L0 hX (fun _ => rfl))
def X2_slotOf (t0 : Nat) (p0 : Int32) (I0 : jI) : Option (Int32) :=
if p0 < 0 then (
some (-1 : Int32))
else (
if (64 : Int32) ≤ p0 then (
some (-1 : Int32))
else (
if jin p0 64 then (
some (I0 (rfC t0 18) (p0).toNatClampNeg)) else none))
set_option maxRecDepth 20000 in
set_option maxHeartbeats 4000000 in
theorem W_X2_slotOf {Y : jY} {Z : jZ} {Qf : Int32 → State → Prop} (hz0 : Y.zf = false) (t0 : Nat) (ht0 : shC t0 = 3) (p0 : Int32) (I0 : jI) (L0 : jL) (hX : jOK Y Z RX2 cX2_slotOf 2 "slotOf" (some .int) 1 80 0 0) (hQ : ∀ r : Int32, Qf r = jQ Y Z 0 0 (some (ji r)) NC shC rfC I0 L0) : J Y Z 2 Qf (X2_slotOf t0 p0 I0) 0 [(0, jr t0), (1, ji p0)] [] 0 0 NC shC rfC I0 L0 := by
  unfold X2_slotOf
  refine J_iload_n (pc := 0) hX 1 rfl dX2_slotOf_0 ?_
  refine J_if_lt (pc := 1) hX (tgt := 22) (by decide) dX2_slotOf_1 (fun h1 => ?_) (fun h1 => ?_)
  · refine J_iconst (pc := 22) hX (v := (-1 : Int32)) (by decide) dX2_slotOf_22 ?_
    exact J_iret (pc := 23) hX (hQ _) dX2_slotOf_23
  · refine J_iload_n (pc := 4) hX 1 rfl dX2_slotOf_4 ?_
    refine J_aload_n (pc := 5) hX 0 rfl dX2_slotOf_5 ?_
    refine g_X2_34 (pc := 6) hX ht0 dX2_slotOf_6 ?_
    refine J_alen (pc := 9) hX (v := (64 : Int32)) (fs_2_18 t0 ht0) (by decide) dX2_slotOf_9 ?_
    refine J_icmp_ge (pc := 10) hX (tgt := 22) (by decide) dX2_slotOf_10 (fun h2 => ?_) (fun h2 => ?_)
    · refine J_iconst (pc := 22) hX (v := (-1 : Int32)) (by decide) dX2_slotOf_22 ?_
      exact J_iret (pc := 23) hX (hQ _) dX2_slotOf_23
    · refine J_aload_n (pc := 13) hX 0 rfl dX2_slotOf_13 ?_
      refine g_X2_34 (pc := 14) hX ht0 dX2_slotOf_14 ?_
      refine J_iload_n (pc := 17) hX 1 rfl dX2_slotOf_17 ?_
      refine J_iald (pc := 18) hX (N := 64) (fs_2_18 t0 ht0) (by decide) dX2_slotOf_18 (fun h3 => ?_)
      refine J_goto (pc := 19) hX (tgt := 23) (by decide) dX2_slotOf_19 ?_
      exact J_iret (pc := 23) hX (hQ _) dX2_slotOf_23
theorem C_X2_slotOf (Y : jY) (hz0 : Y.zf = false) (t0 : Nat) (ht0 : shC t0 = 3) (p0 : Int32) (I0 : jI) (L0 : jL) (r : Int32) (h : X2_slotOf t0 p0 I0 = some r) : jMet Y yX2_slotOf cX2_slotOf 2 (some .int) 1 80 0 0 [jr t0, ji p0] NC shC rfC I0 L0 (some (ji r)) NC shC rfC I0 L0 :=
  jmet_of _ _ h (fun Z r => jQ Y Z 0 0 (some (ji r)) NC shC rfC I0 L0) (fun _ => rfl) (by decide) (Nat.le_of_ble_eq_true rfl) (fun Z hX => W_X2_slotOf hz0 t0 ht0 p0 I0 L0 hX (fun _ => rfl))
def X2_pageIn (t0 : Nat) (p0 : Int32) (I0 : jI) : Option (Int32) :=
if p0 < 0 then (
some (-1 : Int32))
else (
if (16 : Int32) ≤ p0 then (
some (-1 : Int32))
else (
if jin p0 16 then (
some (I0 (rfC t0 11) (p0).toNatClampNeg)) else none))
set_option maxRecDepth 20000 in
set_option maxHeartbeats 4000000 in
theorem W_X2_pageIn {Y : jY} {Z : jZ} {Qf : Int32 → State → Prop} (hz0 : Y.zf = false) (t0 : Nat) (ht0 : shC t0 = 3) (p0 : Int32) (I0 : jI) (L0 : jL) (hX : jOK Y Z RX2 cX2_pageIn 2 "pageIn" (some .int) 1 80 0 0) (hQ : ∀ r : Int32, Qf r = jQ Y Z 0 0 (some (ji r)) NC shC rfC I0 L0) : J Y Z 2 Qf (X2_pageIn t0 p0 I0) 0 [(0, jr t0), (1, ji p0)] [] 0 0 NC shC rfC I0 L0 := by
  unfold X2_pageIn
  refine J_iload_n (pc := 0) hX 1 rfl dX2_pageIn_0 ?_
  refine J_if_lt (pc := 1) hX (tgt := 22) (by decide) dX2_pageIn_1 (fun h1 => ?_) (fun h1 => ?_)
  · refine J_iconst (pc := 22) hX (v := (-1 : Int32)) (by decide) dX2_pageIn_22 ?_
    exact J_iret (pc := 23) hX (hQ _) dX2_pageIn_23
  · refine J_iload_n (pc := 4) hX 1 rfl dX2_pageIn_4 ?_
    refine J_aload_n (pc := 5) hX 0 rfl dX2_pageIn_5 ?_
    refine g_X2_9 (pc := 6) hX ht0 dX2_pageIn_6 ?_
    refine J_alen (pc := 9) hX (v := (16 : Int32)) (fs_2_11 t0 ht0) (by decide) dX2_pageIn_9 ?_
    refine J_icmp_ge (pc := 10) hX (tgt := 22) (by decide) dX2_pageIn_10 (fun h2 => ?_) (fun h2 => ?_)
    · refine J_iconst (pc := 22) hX (v := (-1 : Int32)) (by decide) dX2_pageIn_22 ?_
      exact J_iret (pc := 23) hX (hQ _) dX2_pageIn_23
    · refine J_aload_n (pc := 13) hX 0 rfl dX2_pageIn_13 ?_
      refine g_X2_9 (pc := 14) hX ht0 dX2_pageIn_14 ?_
      refine J_iload_n (pc := 17) hX 1 rfl dX2_pageIn_17 ?_
      refine J_iald (pc := 18) hX (N := 16) (fs_2_11 t0 ht0) (by decide) dX2_pageIn_18 (fun h3 => ?_)
      refine J_goto (pc := 19) hX (tgt := 23) (by decide) dX2_pageIn_19 ?_
      exact J_iret (pc := 23) hX (hQ _) dX2_pageIn_23
theorem C_X2_pageIn (Y : jY) (hz0 : Y.zf = false) (t0 : Nat) (ht0 : shC t0 = 3) (p0 : Int32) (I0 : jI) (L0 : jL) (r : Int32) (h : X2_pageIn t0 p0 I0 = some r) : jMet Y yX2_pageIn cX2_pageIn 2 (some .int) 1 80 0 0 [jr t0, ji p0] NC shC rfC I0 L0 (some (ji r)) NC shC rfC I0 L0 :=
  jmet_of _ _ h (fun Z r => jQ Y Z 0 0 (some (ji r)) NC shC rfC I0 L0) (fun _ => rfl) (by decide) (Nat.le_of_ble_eq_true rfl) (fun Z hX => W_X2_pageIn hz0 t0 ht0 p0 I0 L0 hX (fun _ => rfl))
def X2_valueIn (t0 : Nat) (p0 : Int32) (I0 : jI) : Option (Int32) :=
if p0 < 0 then (
some (0 : Int32))
else (
if (16 : Int32) ≤ p0 then (
some (0 : Int32))
else (
if jin p0 16 then (
some (I0 (rfC t0 12) (p0).toNatClampNeg)) else none))
set_option maxRecDepth 20000 in
set_option maxHeartbeats 4000000 in
theorem W_X2_valueIn {Y : jY} {Z : jZ} {Qf : Int32 → State → Prop} (hz0 : Y.zf = false) (t0 : Nat) (ht0 : shC t0 = 3) (p0 : Int32) (I0 : jI) (L0 : jL) (hX : jOK Y Z RX2 cX2_valueIn 2 "valueIn" (some .int) 1 80 0 0) (hQ : ∀ r : Int32, Qf r = jQ Y Z 0 0 (some (ji r)) NC shC rfC I0 L0) : J Y Z 2 Qf (X2_valueIn t0 p0 I0) 0 [(0, jr t0), (1, ji p0)] [] 0 0 NC shC rfC I0 L0 := by
  unfold X2_valueIn
  refine J_iload_n (pc := 0) hX 1 rfl dX2_valueIn_0 ?_
  refine J_if_lt (pc := 1) hX (tgt := 22) (by decide) dX2_valueIn_1 (fun h1 => ?_) (fun h1 => ?_)
  · refine J_iconst (pc := 22) hX (v := (0 : Int32)) (by decide) dX2_valueIn_22 ?_
    exact J_iret (pc := 23) hX (hQ _) dX2_valueIn_23
  · refine J_iload_n (pc := 4) hX 1 rfl dX2_valueIn_4 ?_
    refine J_aload_n (pc := 5) hX 0 rfl dX2_valueIn_5 ?_
    refine g_X2_15 (pc := 6) hX ht0 dX2_valueIn_6 ?_
    refine J_alen (pc := 9) hX (v := (16 : Int32)) (fs_2_12 t0 ht0) (by decide) dX2_valueIn_9 ?_
    refine J_icmp_ge (pc := 10) hX (tgt := 22) (by decide) dX2_valueIn_10 (fun h2 => ?_) (fun h2 => ?_)
    · refine J_iconst (pc := 22) hX (v := (0 : Int32)) (by decide) dX2_valueIn_22 ?_
      exact J_iret (pc := 23) hX (hQ _) dX2_valueIn_23
    · refine J_aload_n (pc := 13) hX 0 rfl dX2_valueIn_13 ?_
      refine g_X2_15 (pc := 14) hX ht0 dX2_valueIn_14 ?_
      refine J_iload_n (pc := 17) hX 1 rfl dX2_valueIn_17 ?_
      refine J_iald (pc := 18) hX (N := 16) (fs_2_12 t0 ht0) (by decide) dX2_valueIn_18 (fun h3 => ?_)
      refine J_goto (pc := 19) hX (tgt := 23) (by decide) dX2_valueIn_19 ?_
      exact J_iret (pc := 23) hX (hQ _) dX2_valueIn_23
theorem C_X2_valueIn (Y : jY) (hz0 : Y.zf = false) (t0 : Nat) (ht0 : shC t0 = 3) (p0 : Int32) (I0 : jI) (L0 : jL) (r : Int32) (h : X2_valueIn t0 p0 I0 = some r) : jMet Y yX2_valueIn cX2_valueIn 2 (some .int) 1 80 0 0 [jr t0, ji p0] NC shC rfC I0 L0 (some (ji r)) NC shC rfC I0 L0 :=
  jmet_of _ _ h (fun Z r => jQ Y Z 0 0 (some (ji r)) NC shC rfC I0 L0) (fun _ => rfl) (by decide) (Nat.le_of_ble_eq_true rfl) (fun Z hX => W_X2_valueIn hz0 t0 ht0 p0 I0 L0 hX (fun _ => rfl))
def X2_isDirty (t0 : Nat) (p0 : Int32) (I0 : jI) : Option (Int32) :=
if p0 < 0 then (
some (0 : Int32))
else (
if (16 : Int32) ≤ p0 then (
some (0 : Int32))
else (
if jin p0 16 then (
if (I0 (rfC t0 13) (p0).toNatClampNeg) = 0 then (
some (0 : Int32))
else (
some (1 : Int32))) else none))
set_option maxRecDepth 20000 in
set_option maxHeartbeats 4000000 in
theorem W_X2_isDirty {Y : jY} {Z : jZ} {Qf : Int32 → State → Prop} (hz0 : Y.zf = false) (t0 : Nat) (ht0 : shC t0 = 3) (p0 : Int32) (I0 : jI) (L0 : jL) (hX : jOK Y Z RX2 cX2_isDirty 2 "isDirty" (some .boolean) 1 80 0 0) (hQ : ∀ r : Int32, Qf r = jQ Y Z 0 0 (some (ji r)) NC shC rfC I0 L0) : J Y Z 2 Qf (X2_isDirty t0 p0 I0) 0 [(0, jr t0), (1, ji p0)] [] 0 0 NC shC rfC I0 L0 := by
  unfold X2_isDirty
  refine J_iload_n (pc := 0) hX 1 rfl dX2_isDirty_0 ?_
  refine J_if_lt (pc := 1) hX (tgt := 26) (by decide) dX2_isDirty_1 (fun h1 => ?_) (fun h1 => ?_)
  · refine J_iconst (pc := 26) hX (v := (0 : Int32)) (by decide) dX2_isDirty_26 ?_
    exact J_zret (pc := 27) hX (by decide) (hQ _) dX2_isDirty_27
  · refine J_iload_n (pc := 4) hX 1 rfl dX2_isDirty_4 ?_
    refine J_aload_n (pc := 5) hX 0 rfl dX2_isDirty_5 ?_
    refine g_X2_18 (pc := 6) hX ht0 dX2_isDirty_6 ?_
    refine J_alen (pc := 9) hX (v := (16 : Int32)) (fs_2_13 t0 ht0) (by decide) dX2_isDirty_9 ?_
    refine J_icmp_ge (pc := 10) hX (tgt := 26) (by decide) dX2_isDirty_10 (fun h2 => ?_) (fun h2 => ?_)
    · refine J_iconst (pc := 26) hX (v := (0 : Int32)) (by decide) dX2_isDirty_26 ?_
      exact J_zret (pc := 27) hX (by decide) (hQ _) dX2_isDirty_27
    · refine J_aload_n (pc := 13) hX 0 rfl dX2_isDirty_13 ?_
      refine g_X2_18 (pc := 14) hX ht0 dX2_isDirty_14 ?_
      refine J_iload_n (pc := 17) hX 1 rfl dX2_isDirty_17 ?_
      refine J_zald (pc := 18) hX (N := 16) (fs_2_13 t0 ht0) (by decide) dX2_isDirty_18 (fun h3 => ?_)
      refine J_if_eq (pc := 19) hX (tgt := 26) (by decide) dX2_isDirty_19 (fun h4 => ?_) (fun h4 => ?_)
      · refine J_iconst (pc := 26) hX (v := (0 : Int32)) (by decide) dX2_isDirty_26 ?_
        exact J_zret (pc := 27) hX (by decide) (hQ _) dX2_isDirty_27
      · refine J_iconst (pc := 22) hX (v := (1 : Int32)) (by decide) dX2_isDirty_22 ?_
        refine J_goto (pc := 23) hX (tgt := 27) (by decide) dX2_isDirty_23 ?_
        exact J_zret (pc := 27) hX (by decide) (hQ _) dX2_isDirty_27
theorem C_X2_isDirty (Y : jY) (hz0 : Y.zf = false) (t0 : Nat) (ht0 : shC t0 = 3) (p0 : Int32) (I0 : jI) (L0 : jL) (r : Int32) (h : X2_isDirty t0 p0 I0 = some r) : jMet Y yX2_isDirty cX2_isDirty 2 (some .boolean) 1 80 0 0 [jr t0, ji p0] NC shC rfC I0 L0 (some (ji r)) NC shC rfC I0 L0 :=
  jmet_of _ _ h (fun Z r => jQ Y Z 0 0 (some (ji r)) NC shC rfC I0 L0) (fun _ => rfl) (by decide) (Nat.le_of_ble_eq_true rfl) (fun Z hX => W_X2_isDirty hz0 t0 ht0 p0 I0 L0 hX (fun _ => rfl))
def X2_change (t0 : Nat) (p0 : Int32) (p1 : Int32) (p2 : Int32) (I0 : jI) : Option (jI) :=
if p0 < 0 then (
some I0)
else (
if (16 : Int32) ≤ p0 then (
some I0)
else (
if jin p0 16 then jlet (jup I0 (rfC t0 12) (p0).toNatClampNeg p1) (fun (I4 : jI) =>
if jin p0 16 then jlet (jup I4 (rfC t0 13) (p0).toNatClampNeg (jnz p2)) (fun (I6 : jI) =>
some I6) else none) else none))
set_option maxRecDepth 20000 in
set_option maxHeartbeats 4000000 in
theorem W_X2_change {Y : jY} {Z : jZ} {Qf : jI → State → Prop} (hz0 : Y.zf = false) (t0 : Nat) (ht0 : shC t0 = 3) (p0 : Int32) (p1 : Int32) (p2 : Int32) (I0 : jI) (L0 : jL) (hX : jOK Y Z RX2 cX2_change 4 "change" none 1 80 0 0) (hQ : ∀ r : jI, Qf r = jQ Y Z 0 0 none NC shC rfC r L0) : J Y Z 4 Qf (X2_change t0 p0 p1 p2 I0) 0 [(0, jr t0), (1, ji p0), (2, ji p1), (3, ji p2)] [] 0 0 NC shC rfC I0 L0 := by
  unfold X2_change
  refine J_iload_n (pc := 0) hX 1 rfl dX2_change_0 ?_
  refine J_if_lt (pc := 1) hX (tgt := 24) (by decide) dX2_change_1 (fun h1 => ?_) (fun h1 => ?_)
  · exact J_vret (pc := 24) hX (hQ _) dX2_change_24
  · refine J_iload_n (pc := 4) hX 1 rfl dX2_change_4 ?_
    refine J_bipush (pc := 5) hX (v := (16 : Int32)) (by decide) dX2_change_5 ?_
    refine J_icmp_ge (pc := 7) hX (tgt := 24) (by decide) dX2_change_7 (fun h2 => ?_) (fun h2 => ?_)
    · exact J_vret (pc := 24) hX (hQ _) dX2_change_24
    · refine J_aload_n (pc := 10) hX 0 rfl dX2_change_10 ?_
      refine g_X2_15 (pc := 11) hX ht0 dX2_change_11 ?_
      refine J_iload_n (pc := 14) hX 1 rfl dX2_change_14 ?_
      refine J_iload_n (pc := 15) hX 2 rfl dX2_change_15 ?_
      refine J_iast (pc := 16) hX (N := 16) (fs_2_12 t0 ht0) (by decide) dX2_change_16 (fun h3 I4 => ?_)
      refine J_aload_n (pc := 17) hX 0 rfl dX2_change_17 ?_
      refine g_X2_18 (pc := 18) hX ht0 dX2_change_18 ?_
      refine J_iload_n (pc := 21) hX 1 rfl dX2_change_21 ?_
      refine J_iload_n (pc := 22) hX 3 rfl dX2_change_22 ?_
      refine J_zast (pc := 23) hX (N := 16) (fs_2_13 t0 ht0) (by decide) dX2_change_23 (fun h5 I6 => ?_)
      exact J_vret (pc := 24) hX (hQ _) dX2_change_24
theorem C_X2_change (Y : jY) (hz0 : Y.zf = false) (t0 : Nat) (ht0 : shC t0 = 3) (p0 : Int32) (p1 : Int32) (p2 : Int32) (I0 : jI) (L0 : jL) (I1 : jI) (h : X2_change t0 p0 p1 p2 I0 = some I1) : jMet Y yX2_change cX2_change 4 none 1 80 0 0 [jr t0, ji p0, ji p1, ji p2] NC shC rfC I0 L0 none NC shC rfC I1 L0 :=
  jmet_of _ _ h (fun Z r => jQ Y Z 0 0 none NC shC rfC r L0) (fun _ => rfl) (by decide) (Nat.le_of_ble_eq_true rfl) (fun Z hX => W_X2_change hz0 t0 ht0 p0 p1 p2 I0 L0 hX (fun _ => rfl))
def X2_freeSlot_F1 (t0 : Nat) (I0 : jI) (g2 : Int32 → Option (Int32)) : Int32 → Option (Int32) := fun (v1 : Int32) =>
if (I0 t0 0) ≤ (I0 t0 10) then (
some (-1 : Int32))
else (
if (I0 t0 0) ≤ v1 then (
some (-1 : Int32))
else (
if (16 : Int32) ≤ v1 then (
some (-1 : Int32))
else (
if jin v1 16 then (
if (I0 (rfC t0 11) (v1).toNatClampNeg) = (-1 : Int32) then (
some v1)
else (
g2 (v1 + (1 : Int32)))) else none)))
def X2_freeSlot (t0 : Nat) (I0 : jI) : Option (Int32) :=
jfx (X2_freeSlot_F1 t0 I0) (fun _ => none) 1000 (0 : Int32)
set_option maxRecDepth 20000 in
set_option maxHeartbeats 4000000 in
theorem W_X2_freeSlot {Y : jY} {Z : jZ} {Qf : Int32 → State → Prop} (hz0 : Y.zf = false) (t0 : Nat) (ht0 : shC t0 = 3) (I0 : jI) (L0 : jL) (hX : jOK Y Z RX2 cX2_freeSlot 2 "freeSlot" (some .int) 1 80 0 0) (hQ : ∀ r : Int32, Qf r = jQ Y Z 0 0 (some (ji r)) NC shC rfC I0 L0) : J Y Z 2 Qf (X2_freeSlot t0 I0) 0 [(0, jr t0)] [] 0 0 NC shC rfC I0 L0 := by
  unfold X2_freeSlot
  refine J_iconst (pc := 0) hX (v := (0 : Int32)) (by decide) dX2_freeSlot_0 ?_
  refine J_istore_n (pc := 1) hX (lo' := [(1, ji (0 : Int32)), (0, jr t0)]) (by decide) rfl dX2_freeSlot_1 ?_
  have lhg2 : ∀ mq : Nat, ∀ (v1 : Int32), J Y Z 2 Qf (jfx (X2_freeSlot_F1 t0 I0) (fun _ => none) mq v1) 2 [(0, jr t0), (1, ji v1)] [] 0 0 NC shC rfC I0 L0 := by
    intro mq
    refine jfx_J (fun (_ : Nat) (g2 : Int32 → Option (Int32)) => ∀ (v1 : Int32), J Y Z 2 Qf (g2 v1) 2 [(0, jr t0), (1, ji v1)] [] 0 0 NC shC rfC I0 L0) ?_ (fun _ g2 hg2 => ?_) mq
    · intro v1
      exact J_none
    intro v1
    unfold X2_freeSlot_F1
    try dsimp only
    refine J_aload_n (pc := 2) hX 0 rfl dX2_freeSlot_2 ?_
    refine g_X2_71 (pc := 3) hX ht0 dX2_freeSlot_3 ?_
    refine J_aload_n (pc := 6) hX 0 rfl dX2_freeSlot_6 ?_
    refine g_X2_37 (pc := 7) hX ht0 dX2_freeSlot_7 ?_
    refine J_icmp_ge (pc := 10) hX (tgt := 48) (by decide) dX2_freeSlot_10 (fun h3 => ?_) (fun h3 => ?_)
    · refine J_iconst (pc := 48) hX (v := (-1 : Int32)) (by decide) dX2_freeSlot_48 ?_
      exact J_iret (pc := 49) hX (hQ _) dX2_freeSlot_49
    · refine J_iload_n (pc := 13) hX 1 rfl dX2_freeSlot_13 ?_
      refine J_aload_n (pc := 14) hX 0 rfl dX2_freeSlot_14 ?_
      refine g_X2_37 (pc := 15) hX ht0 dX2_freeSlot_15 ?_
      refine J_icmp_ge (pc := 18) hX (tgt := 48) (by decide) dX2_freeSlot_18 (fun h4 => ?_) (fun h4 => ?_)
      · refine J_iconst (pc := 48) hX (v := (-1 : Int32)) (by decide) dX2_freeSlot_48 ?_
        exact J_iret (pc := 49) hX (hQ _) dX2_freeSlot_49
      · refine J_iload_n (pc := 21) hX 1 rfl dX2_freeSlot_21 ?_
        refine J_aload_n (pc := 22) hX 0 rfl dX2_freeSlot_22 ?_
        refine g_X2_9 (pc := 23) hX ht0 dX2_freeSlot_23 ?_
        refine J_alen (pc := 26) hX (v := (16 : Int32)) (fs_2_11 t0 ht0) (by decide) dX2_freeSlot_26 ?_
        refine J_icmp_ge (pc := 27) hX (tgt := 48) (by decide) dX2_freeSlot_27 (fun h5 => ?_) (fun h5 => ?_)
        · refine J_iconst (pc := 48) hX (v := (-1 : Int32)) (by decide) dX2_freeSlot_48 ?_
          exact J_iret (pc := 49) hX (hQ _) dX2_freeSlot_49
        · refine J_aload_n (pc := 30) hX 0 rfl dX2_freeSlot_30 ?_
          refine g_X2_9 (pc := 31) hX ht0 dX2_freeSlot_31 ?_
          refine J_iload_n (pc := 34) hX 1 rfl dX2_freeSlot_34 ?_
          refine J_iald (pc := 35) hX (N := 16) (fs_2_11 t0 ht0) (by decide) dX2_freeSlot_35 (fun h6 => ?_)
          refine J_iconst (pc := 36) hX (v := (-1 : Int32)) (by decide) dX2_freeSlot_36 ?_
          refine J_icmp_ne (pc := 37) hX (tgt := 42) (by decide) dX2_freeSlot_37 (fun h7 => ?_) (fun h7 => ?_)
          · refine J_iinc (pc := 42) hX (v := (v1 + (1 : Int32))) (lo' := [(1, ji (v1 + (1 : Int32))), (0, jr t0)]) 1 rfl (by rfl) (by decide) rfl dX2_freeSlot_42 ?_
            refine J_goto (pc := 45) hX (tgt := 2) (by decide) dX2_freeSlot_45 ?_
            refine J_sub [1, 0] rfl ?_
            exact hg2 (v1 + (1 : Int32))
          · refine J_iload_n (pc := 40) hX 1 rfl dX2_freeSlot_40 ?_
            exact J_iret (pc := 41) hX (hQ _) dX2_freeSlot_41
  refine J_sub [1, 0] rfl ?_
  exact lhg2 1000 (0 : Int32)
theorem C_X2_freeSlot (Y : jY) (hz0 : Y.zf = false) (t0 : Nat) (ht0 : shC t0 = 3) (I0 : jI) (L0 : jL) (r : Int32) (h : X2_freeSlot t0 I0 = some r) : jMet Y yX2_freeSlot cX2_freeSlot 2 (some .int) 1 80 0 0 [jr t0] NC shC rfC I0 L0 (some (ji r)) NC shC rfC I0 L0 :=
  jmet_of _ _ h (fun Z r => jQ Y Z 0 0 (some (ji r)) NC shC rfC I0 L0) (fun _ => rfl) (by decide) (Nat.le_of_ble_eq_true rfl) (fun Z hX => W_X2_freeSlot hz0 t0 ht0 I0 L0 hX (fun _ => rfl))
def X2_hold (t0 : Nat) (p0 : Int32) (p1 : Int32) (p2 : Int32) (p3 : Int32) (I0 : jI) : Option (jI) :=
(X2_isSlot p0).bind (fun (y1 : Int32) =>
if y1 = 0 then (
some I0)
else (
(X6_isPage p1).bind (fun (y4 : Int32) =>
if y4 = 0 then (
some I0)
else (
if jin p0 16 then jlet (jup I0 (rfC t0 11) (p0).toNatClampNeg p1) (fun (I8 : jI) =>
if jin p1 64 then jlet (jup I8 (rfC t0 18) (p1).toNatClampNeg p0) (fun (I10 : jI) =>
if jin p0 16 then jlet (jup I10 (rfC t0 14) (p0).toNatClampNeg p2) (fun (I12 : jI) =>
if jin p0 16 then jlet (jup I12 (rfC t0 15) (p0).toNatClampNeg p3) (fun (I14 : jI) =>
if jin p0 16 then jlet (jup I14 (rfC t0 16) (p0).toNatClampNeg (1 : Int32)) (fun (I16 : jI) =>
if jin p0 16 then jlet (jup I16 (rfC t0 17) (p0).toNatClampNeg (jnz (0 : Int32))) (fun (I18 : jI) =>
jlet (jup I18 t0 10 ((I18 t0 10) + (1 : Int32))) (fun (I19 : jI) =>
jlet (jup I19 t0 7 ((I19 t0 7) + (1 : Int32))) (fun (I20 : jI) =>
some I20))) else none) else none) else none) else none) else none) else none))))
set_option maxRecDepth 20000 in
set_option maxHeartbeats 4000000 in
theorem W_X2_hold {Y : jY} {Z : jZ} {Qf : jI → State → Prop} (hz0 : Y.zf = false) (t0 : Nat) (ht0 : shC t0 = 3) (p0 : Int32) (p1 : Int32) (p2 : Int32) (p3 : Int32) (I0 : jI) (L0 : jL) (hX : jOK Y Z RX2 cX2_hold 5 "hold" none 2 100 0 0) (hQ : ∀ r : jI, Qf r = jQ Y Z 0 0 none NC shC rfC r L0) : J Y Z 5 Qf (X2_hold t0 p0 p1 p2 p3 I0) 0 [(0, jr t0), (1, ji p0), (2, ji p1), (3, ji p2), (4, ji p3)] [] 0 0 NC shC rfC I0 L0 := by
  unfold X2_hold
  refine J_iload_n (pc := 0) hX 1 rfl dX2_hold_0 ?_
  refine J_call1 (fun y1 e2 => ?_)
  refine jrun_i (pc := 1) (jRunS hX s_X2_80 (As := [ji p0]) (rest := []) (C_X2_isSlot Y hz0 p0 I0 L0 y1 e2) rfl rfl ⟨by decide, by decide⟩ ⟨Nat.le_of_ble_eq_true rfl, Nat.le_of_ble_eq_true rfl⟩ (Nat.le_of_ble_eq_true rfl) dX2_hold_1) ?_
  refine J_if_eq (pc := 4) hX (tgt := 77) (by decide) dX2_hold_4 (fun h3 => ?_) (fun h3 => ?_)
  · exact J_vret (pc := 77) hX (hQ _) dX2_hold_77
  · refine J_iload_n (pc := 7) hX 2 rfl dX2_hold_7 ?_
    refine J_call1 (fun y4 e5 => ?_)
    refine jrun_i (pc := 8) (jRunSN hX s_X2_84 (As := [ji p1]) (rest := []) (C_X6_isPage Y hz0 p1 I0 L0 y4 e5) rfl rfl ⟨by decide, by decide⟩ ⟨Nat.le_of_ble_eq_true rfl, Nat.le_of_ble_eq_true rfl⟩ (Nat.le_of_ble_eq_true rfl) dX2_hold_8) ?_
    refine J_if_eq (pc := 11) hX (tgt := 77) (by decide) dX2_hold_11 (fun h6 => ?_) (fun h6 => ?_)
    · exact J_vret (pc := 77) hX (hQ _) dX2_hold_77
    · refine J_aload_n (pc := 14) hX 0 rfl dX2_hold_14 ?_
      refine g_X2_9 (pc := 15) hX ht0 dX2_hold_15 ?_
      refine J_iload_n (pc := 18) hX 1 rfl dX2_hold_18 ?_
      refine J_iload_n (pc := 19) hX 2 rfl dX2_hold_19 ?_
      refine J_iast (pc := 20) hX (N := 16) (fs_2_11 t0 ht0) (by decide) dX2_hold_20 (fun h7 I8 => ?_)
      refine J_aload_n (pc := 21) hX 0 rfl dX2_hold_21 ?_
      refine g_X2_34 (pc := 22) hX ht0 dX2_hold_22 ?_
      refine J_iload_n (pc := 25) hX 2 rfl dX2_hold_25 ?_
      refine J_iload_n (pc := 26) hX 1 rfl dX2_hold_26 ?_
      refine J_iast (pc := 27) hX (N := 64) (fs_2_18 t0 ht0) (by decide) dX2_hold_27 (fun h9 I10 => ?_)
      refine J_aload_n (pc := 28) hX 0 rfl dX2_hold_28 ?_
      refine g_X2_22 (pc := 29) hX ht0 dX2_hold_29 ?_
      refine J_iload_n (pc := 32) hX 1 rfl dX2_hold_32 ?_
      refine J_iload_n (pc := 33) hX 3 rfl dX2_hold_33 ?_
      refine J_iast (pc := 34) hX (N := 16) (fs_2_14 t0 ht0) (by decide) dX2_hold_34 (fun h11 I12 => ?_)
      refine J_aload_n (pc := 35) hX 0 rfl dX2_hold_35 ?_
      refine g_X2_25 (pc := 36) hX ht0 dX2_hold_36 ?_
      refine J_iload_n (pc := 39) hX 1 rfl dX2_hold_39 ?_
      refine J_iload (pc := 40) hX 4 rfl dX2_hold_40 ?_
      refine J_iast (pc := 42) hX (N := 16) (fs_2_15 t0 ht0) (by decide) dX2_hold_42 (fun h13 I14 => ?_)
      refine J_aload_n (pc := 43) hX 0 rfl dX2_hold_43 ?_
      refine g_X2_28 (pc := 44) hX ht0 dX2_hold_44 ?_
      refine J_iload_n (pc := 47) hX 1 rfl dX2_hold_47 ?_
      refine J_iconst (pc := 48) hX (v := (1 : Int32)) (by decide) dX2_hold_48 ?_
      refine J_iast (pc := 49) hX (N := 16) (fs_2_16 t0 ht0) (by decide) dX2_hold_49 (fun h15 I16 => ?_)
      refine J_aload_n (pc := 50) hX 0 rfl dX2_hold_50 ?_
      refine g_X2_31 (pc := 51) hX ht0 dX2_hold_51 ?_
      refine J_iload_n (pc := 54) hX 1 rfl dX2_hold_54 ?_
      refine J_iconst (pc := 55) hX (v := (0 : Int32)) (by decide) dX2_hold_55 ?_
      refine J_zast (pc := 56) hX (N := 16) (fs_2_17 t0 ht0) (by decide) dX2_hold_56 (fun h17 I18 => ?_)
      refine J_aload_n (pc := 57) hX 0 rfl dX2_hold_57 ?_
      refine J_dup (pc := 58) hX rfl dX2_hold_58 ?_
      refine g_X2_71 (pc := 59) hX ht0 dX2_hold_59 ?_
      refine J_iconst (pc := 62) hX (v := (1 : Int32)) (by decide) dX2_hold_62 ?_
      refine J_iadd (pc := 63) hX dX2_hold_63 ?_
      refine p_X2_71 (pc := 64) hX ht0 dX2_hold_64 (fun I19 => ?_)
      refine J_aload_n (pc := 67) hX 0 rfl dX2_hold_67 ?_
      refine J_dup (pc := 68) hX rfl dX2_hold_68 ?_
      refine g_X2_56 (pc := 69) hX ht0 dX2_hold_69 ?_
      refine J_iconst (pc := 72) hX (v := (1 : Int32)) (by decide) dX2_hold_72 ?_
      refine J_iadd (pc := 73) hX dX2_hold_73 ?_
      refine p_X2_56 (pc := 74) hX ht0 dX2_hold_74 (fun I20 => ?_)
      exact J_vret (pc := 77) hX (hQ _) dX2_hold_77
theorem C_X2_hold (Y : jY) (hz0 : Y.zf = false) (t0 : Nat) (ht0 : shC t0 = 3) (p0 : Int32) (p1 : Int32) (p2 : Int32) (p3 : Int32) (I0 : jI) (L0 : jL) (I1 : jI) (h : X2_hold t0 p0 p1 p2 p3 I0 = some I1) : jMet Y yX2_hold cX2_hold 5 none 2 100 0 0 [jr t0, ji p0, ji p1, ji p2, ji p3] NC shC rfC I0 L0 none NC shC rfC I1 L0 :=
  jmet_of _ _ h (fun Z r => jQ Y Z 0 0 none NC shC rfC r L0) (fun _ => rfl) (by decide) (Nat.le_of_ble_eq_true rfl) (fun Z hX => W_X2_hold hz0 t0 ht0 p0 p1 p2 p3 I0 L0 hX (fun _ => rfl))
def X2_release (t0 : Nat) (p0 : Int32) (I0 : jI) : Option (Int32 × jI) :=
jlet (fun (v1 : Int32) =>
if v1 < 0 then (
some ((0 : Int32), I0))
else (
if v1 < (64 : Int32) then (
if jin p0 16 then jlet (jup I0 (rfC t0 11) (p0).toNatClampNeg (-1 : Int32)) (fun (I6 : jI) =>
if jin v1 64 then jlet (jup I6 (rfC t0 18) (v1).toNatClampNeg (-1 : Int32)) (fun (I8 : jI) =>
if jin p0 16 then jlet (jup I8 (rfC t0 13) (p0).toNatClampNeg (jnz (0 : Int32))) (fun (I10 : jI) =>
jlet (jup I10 t0 10 ((I10 t0 10) - (1 : Int32))) (fun (I11 : jI) =>
some ((1 : Int32), I11))) else none) else none) else none)
else (
some ((0 : Int32), I0)))) (fun (k2 : Int32 → Option (Int32 × jI)) =>
jlet (
k2 (-1 : Int32)) (fun (k12 : Option (Int32 × jI)) =>
if p0 < 0 then (
k12)
else (
if (16 : Int32) ≤ p0 then (
k12)
else (
if jin p0 16 then (
k2 (I0 (rfC t0 11) (p0).toNatClampNeg)) else none))))
set_option maxRecDepth 20000 in
set_option maxHeartbeats 4000000 in
theorem W_X2_release {Y : jY} {Z : jZ} {Qf : Int32 × jI → State → Prop} (hz0 : Y.zf = false) (t0 : Nat) (ht0 : shC t0 = 3) (p0 : Int32) (I0 : jI) (L0 : jL) (hX : jOK Y Z RX2 cX2_release 3 "release" (some .boolean) 1 80 0 0) (hQ : ∀ r : Int32 × jI, Qf r = jQ Y Z 0 0 (some (ji r.1)) NC shC rfC r.2 L0) : J Y Z 3 Qf (X2_release t0 p0 I0) 0 [(0, jr t0), (1, ji p0)] [] 0 0 NC shC rfC I0 L0 := by
  unfold X2_release
  refine J_iload_n (pc := 0) hX 1 rfl dX2_release_0 ?_
  refine J_join (fun (k2 : Int32 → Option (Int32 × jI)) => ∀ (v1 : Int32), J Y Z 3 Qf (k2 v1) 20 [(0, jr t0), (1, ji p0)] [ji v1] 0 0 NC shC rfC I0 L0) ?_ (fun k2 hk2 => ?_)
  · intro v1
    try dsimp only
    refine J_istore_n (pc := 20) hX (lo' := [(2, ji v1), (0, jr t0), (1, ji p0)]) (by decide) rfl dX2_release_20 ?_
    refine J_iload_n (pc := 21) hX 0 rfl dX2_release_21 ?_
    refine J_if_lt (pc := 22) hX (tgt := 34) (by decide) dX2_release_22 (fun h3 => ?_) (fun h3 => ?_)
    · refine J_iconst (pc := 34) hX (v := (0 : Int32)) (by decide) dX2_release_34 ?_
      exact J_zret (pc := 35) hX (by decide) (hQ _) dX2_release_35
    · refine J_iload_n (pc := 25) hX 0 rfl dX2_release_25 ?_
      refine J_aload_n (pc := 26) hX 1 rfl dX2_release_26 ?_
      refine g_X2_34 (pc := 27) hX ht0 dX2_release_27 ?_
      refine J_alen (pc := 30) hX (v := (64 : Int32)) (fs_2_18 t0 ht0) (by decide) dX2_release_30 ?_
      refine J_icmp_lt (pc := 31) hX (tgt := 36) (by decide) dX2_release_31 (fun h4 => ?_) (fun h4 => ?_)
      · refine J_aload_n (pc := 36) hX 1 rfl dX2_release_36 ?_
        refine g_X2_9 (pc := 37) hX ht0 dX2_release_37 ?_
        refine J_iload_n (pc := 40) hX 2 rfl dX2_release_40 ?_
        refine J_iconst (pc := 41) hX (v := (-1 : Int32)) (by decide) dX2_release_41 ?_
        refine J_iast (pc := 42) hX (N := 16) (fs_2_11 t0 ht0) (by decide) dX2_release_42 (fun h5 I6 => ?_)
        refine J_aload_n (pc := 43) hX 1 rfl dX2_release_43 ?_
        refine g_X2_34 (pc := 44) hX ht0 dX2_release_44 ?_
        refine J_iload_n (pc := 47) hX 0 rfl dX2_release_47 ?_
        refine J_iconst (pc := 48) hX (v := (-1 : Int32)) (by decide) dX2_release_48 ?_
        refine J_iast (pc := 49) hX (N := 64) (fs_2_18 t0 ht0) (by decide) dX2_release_49 (fun h7 I8 => ?_)
        refine J_aload_n (pc := 50) hX 1 rfl dX2_release_50 ?_
        refine g_X2_18 (pc := 51) hX ht0 dX2_release_51 ?_
        refine J_iload_n (pc := 54) hX 2 rfl dX2_release_54 ?_
        refine J_iconst (pc := 55) hX (v := (0 : Int32)) (by decide) dX2_release_55 ?_
        refine J_zast (pc := 56) hX (N := 16) (fs_2_13 t0 ht0) (by decide) dX2_release_56 (fun h9 I10 => ?_)
        refine J_aload_n (pc := 57) hX 1 rfl dX2_release_57 ?_
        refine J_dup (pc := 58) hX rfl dX2_release_58 ?_
        refine g_X2_71 (pc := 59) hX ht0 dX2_release_59 ?_
        refine J_iconst (pc := 62) hX (v := (1 : Int32)) (by decide) dX2_release_62 ?_
        refine J_isub (pc := 63) hX dX2_release_63 ?_
        refine p_X2_71 (pc := 64) hX ht0 dX2_release_64 (fun I11 => ?_)
        refine J_iconst (pc := 67) hX (v := (1 : Int32)) (by decide) dX2_release_67 ?_
        exact J_zret (pc := 68) hX (by decide) (hQ _) dX2_release_68
      · refine J_iconst (pc := 34) hX (v := (0 : Int32)) (by decide) dX2_release_34 ?_
        exact J_zret (pc := 35) hX (by decide) (hQ _) dX2_release_35
  refine J_join (fun (k12 : Option (Int32 × jI)) => J Y Z 3 Qf (k12) 19 [(0, jr t0), (1, ji p0)] [] 0 0 NC shC rfC I0 L0) ?_ (fun k12 hk12 => ?_)
  · refine J_iconst (pc := 19) hX (v := (-1 : Int32)) (by decide) dX2_release_19 ?_
    exact hk2 (-1 : Int32)
  refine J_if_lt (pc := 1) hX (tgt := 19) (by decide) dX2_release_1 (fun h13 => ?_) (fun h13 => ?_)
  · exact hk12
  · refine J_iload_n (pc := 4) hX 1 rfl dX2_release_4 ?_
    refine J_bipush (pc := 5) hX (v := (16 : Int32)) (by decide) dX2_release_5 ?_
    refine J_icmp_ge (pc := 7) hX (tgt := 19) (by decide) dX2_release_7 (fun h14 => ?_) (fun h14 => ?_)
    · exact hk12
    · refine J_aload_n (pc := 10) hX 0 rfl dX2_release_10 ?_
      refine g_X2_9 (pc := 11) hX ht0 dX2_release_11 ?_
      refine J_iload_n (pc := 14) hX 1 rfl dX2_release_14 ?_
      refine J_iald (pc := 15) hX (N := 16) (fs_2_11 t0 ht0) (by decide) dX2_release_15 (fun h15 => ?_)
      refine J_goto (pc := 16) hX (tgt := 20) (by decide) dX2_release_16 ?_
      exact hk2 (I0 (rfC t0 11) (p0).toNatClampNeg)
theorem C_X2_release (Y : jY) (hz0 : Y.zf = false) (t0 : Nat) (ht0 : shC t0 = 3) (p0 : Int32) (I0 : jI) (L0 : jL) (r : Int32) (I1 : jI) (h : X2_release t0 p0 I0 = some (r, I1)) : jMet Y yX2_release cX2_release 3 (some .boolean) 1 80 0 0 [jr t0, ji p0] NC shC rfC I0 L0 (some (ji r)) NC shC rfC I1 L0 :=
  jmet_of _ _ h (fun Z r => jQ Y Z 0 0 (some (ji r.1)) NC shC rfC r.2 L0) (fun _ => rfl) (by decide) (Nat.le_of_ble_eq_true rfl) (fun Z hX => W_X2_release hz0 t0 ht0 p0 I0 L0 hX (fun _ => rfl))
def X2_letOut (t0 : Nat) (p0 : Int32) (I0 : jI) : Option (jI) :=
jb2 (X2_release t0 p0 I0) (fun (y1 : Int32) (I2 : jI) =>
if y1 = 0 then (
some I2)
else (
jlet (jup I2 t0 9 ((I2 t0 9) + (1 : Int32))) (fun (I5 : jI) =>
some I5)))
set_option maxRecDepth 20000 in
set_option maxHeartbeats 4000000 in
theorem W_X2_letOut {Y : jY} {Z : jZ} {Qf : jI → State → Prop} (hz0 : Y.zf = false) (t0 : Nat) (ht0 : shC t0 = 3) (p0 : Int32) (I0 : jI) (L0 : jL) (hX : jOK Y Z RX2 cX2_letOut 2 "letOut" none 2 102 0 0) (hQ : ∀ r : jI, Qf r = jQ Y Z 0 0 none NC shC rfC r L0) : J Y Z 2 Qf (X2_letOut t0 p0 I0) 0 [(0, jr t0), (1, ji p0)] [] 0 0 NC shC rfC I0 L0 := by
  unfold X2_letOut
  refine J_aload_n (pc := 0) hX 0 rfl dX2_letOut_0 ?_
  refine J_iload_n (pc := 1) hX 1 rfl dX2_letOut_1 ?_
  refine J_call2 (fun y1 I2 e3 => ?_)
  refine jrun_i (pc := 2) (jRunV hX s_X2_87 (ci := 2) (T := TX2) (N := 19) (As := [ji p0]) (rest := []) rfl (by decide) (C_X2_release Y hz0 t0 ht0 p0 I0 L0 y1 I2 e3) ht0 rfl rfl ⟨by decide, by decide⟩ ⟨Nat.le_of_ble_eq_true rfl, Nat.le_of_ble_eq_true rfl⟩ (Nat.le_of_ble_eq_true rfl) dX2_letOut_2) ?_
  refine J_if_eq (pc := 5) hX (tgt := 18) (by decide) dX2_letOut_5 (fun h4 => ?_) (fun h4 => ?_)
  · exact J_vret (pc := 18) hX (hQ _) dX2_letOut_18
  · refine J_aload_n (pc := 8) hX 0 rfl dX2_letOut_8 ?_
    refine J_dup (pc := 9) hX rfl dX2_letOut_9 ?_
    refine g_X2_62 (pc := 10) hX ht0 dX2_letOut_10 ?_
    refine J_iconst (pc := 13) hX (v := (1 : Int32)) (by decide) dX2_letOut_13 ?_
    refine J_iadd (pc := 14) hX dX2_letOut_14 ?_
    refine p_X2_62 (pc := 15) hX ht0 dX2_letOut_15 (fun I5 => ?_)
    exact J_vret (pc := 18) hX (hQ _) dX2_letOut_18
theorem C_X2_letOut (Y : jY) (hz0 : Y.zf = false) (t0 : Nat) (ht0 : shC t0 = 3) (p0 : Int32) (I0 : jI) (L0 : jL) (I1 : jI) (h : X2_letOut t0 p0 I0 = some I1) : jMet Y yX2_letOut cX2_letOut 2 none 2 102 0 0 [jr t0, ji p0] NC shC rfC I0 L0 none NC shC rfC I1 L0 :=
  jmet_of _ _ h (fun Z r => jQ Y Z 0 0 none NC shC rfC r L0) (fun _ => rfl) (by decide) (Nat.le_of_ble_eq_true rfl) (fun Z hX => W_X2_letOut hz0 t0 ht0 p0 I0 L0 hX (fun _ => rfl))
def X2_touch (t0 : Nat) (p0 : Int32) (p1 : Int32) (I0 : jI) : Option (jI) :=
(X2_isSlot p0).bind (fun (y1 : Int32) =>
if y1 = 0 then (
some I0)
else (
if jin p0 16 then jlet (jup I0 (rfC t0 15) (p0).toNatClampNeg p1) (fun (I5 : jI) =>
if jin p0 16 then (
if jin p0 16 then jlet (jup I5 (rfC t0 16) (p0).toNatClampNeg ((I5 (rfC t0 16) (p0).toNatClampNeg) + (1 : Int32))) (fun (I8 : jI) =>
if jin p0 16 then jlet (jup I8 (rfC t0 17) (p0).toNatClampNeg (jnz (1 : Int32))) (fun (I10 : jI) =>
some I10) else none) else none) else none) else none))
set_option maxRecDepth 20000 in
set_option maxHeartbeats 4000000 in
theorem W_X2_touch {Y : jY} {Z : jZ} {Qf : jI → State → Prop} (hz0 : Y.zf = false) (t0 : Nat) (ht0 : shC t0 = 3) (p0 : Int32) (p1 : Int32) (I0 : jI) (L0 : jL) (hX : jOK Y Z RX2 cX2_touch 3 "touch" none 2 100 0 0) (hQ : ∀ r : jI, Qf r = jQ Y Z 0 0 none NC shC rfC r L0) : J Y Z 3 Qf (X2_touch t0 p0 p1 I0) 0 [(0, jr t0), (1, ji p0), (2, ji p1)] [] 0 0 NC shC rfC I0 L0 := by
  unfold X2_touch
  refine J_iload_n (pc := 0) hX 1 rfl dX2_touch_0 ?_
  refine J_call1 (fun y1 e2 => ?_)
  refine jrun_i (pc := 1) (jRunS hX s_X2_80 (As := [ji p0]) (rest := []) (C_X2_isSlot Y hz0 p0 I0 L0 y1 e2) rfl rfl ⟨by decide, by decide⟩ ⟨Nat.le_of_ble_eq_true rfl, Nat.le_of_ble_eq_true rfl⟩ (Nat.le_of_ble_eq_true rfl) dX2_touch_1) ?_
  refine J_if_eq (pc := 4) hX (tgt := 31) (by decide) dX2_touch_4 (fun h3 => ?_) (fun h3 => ?_)
  · exact J_vret (pc := 31) hX (hQ _) dX2_touch_31
  · refine J_aload_n (pc := 7) hX 0 rfl dX2_touch_7 ?_
    refine g_X2_25 (pc := 8) hX ht0 dX2_touch_8 ?_
    refine J_iload_n (pc := 11) hX 1 rfl dX2_touch_11 ?_
    refine J_iload_n (pc := 12) hX 2 rfl dX2_touch_12 ?_
    refine J_iast (pc := 13) hX (N := 16) (fs_2_15 t0 ht0) (by decide) dX2_touch_13 (fun h4 I5 => ?_)
    refine J_aload_n (pc := 14) hX 0 rfl dX2_touch_14 ?_
    refine g_X2_28 (pc := 15) hX ht0 dX2_touch_15 ?_
    refine J_iload_n (pc := 18) hX 1 rfl dX2_touch_18 ?_
    refine J_dup2 (pc := 19) hX rfl rfl dX2_touch_19 ?_
    refine J_iald (pc := 20) hX (N := 16) (fs_2_16 t0 ht0) (by decide) dX2_touch_20 (fun h6 => ?_)
    refine J_iconst (pc := 21) hX (v := (1 : Int32)) (by decide) dX2_touch_21 ?_
    refine J_iadd (pc := 22) hX dX2_touch_22 ?_
    refine J_iast (pc := 23) hX (N := 16) (fs_2_16 t0 ht0) (by decide) dX2_touch_23 (fun h7 I8 => ?_)
    refine J_aload_n (pc := 24) hX 0 rfl dX2_touch_24 ?_
    refine g_X2_31 (pc := 25) hX ht0 dX2_touch_25 ?_
    refine J_iload_n (pc := 28) hX 1 rfl dX2_touch_28 ?_
    refine J_iconst (pc := 29) hX (v := (1 : Int32)) (by decide) dX2_touch_29 ?_
    refine J_zast (pc := 30) hX (N := 16) (fs_2_17 t0 ht0) (by decide) dX2_touch_30 (fun h9 I10 => ?_)
    exact J_vret (pc := 31) hX (hQ _) dX2_touch_31
theorem C_X2_touch (Y : jY) (hz0 : Y.zf = false) (t0 : Nat) (ht0 : shC t0 = 3) (p0 : Int32) (p1 : Int32) (I0 : jI) (L0 : jL) (I1 : jI) (h : X2_touch t0 p0 p1 I0 = some I1) : jMet Y yX2_touch cX2_touch 3 none 2 100 0 0 [jr t0, ji p0, ji p1] NC shC rfC I0 L0 none NC shC rfC I1 L0 :=
  jmet_of _ _ h (fun Z r => jQ Y Z 0 0 none NC shC rfC r L0) (fun _ => rfl) (by decide) (Nat.le_of_ble_eq_true rfl) (fun Z hX => W_X2_touch hz0 t0 ht0 p0 p1 I0 L0 hX (fun _ => rfl))
def X2_goesAhead (t0 : Nat) (p0 : Int32) (p1 : Int32) (I0 : jI) : Option (Int32) :=
if p0 < 0 then (
some (0 : Int32))
else (
if (16 : Int32) ≤ p0 then (
some (0 : Int32))
else (
if p1 < 0 then (
some (0 : Int32))
else (
if p1 < (16 : Int32) then (
if (I0 t0 2) = (3 : Int32) then (
if jin p0 16 then (
if jin p1 16 then (
if (I0 (rfC t0 14) (p1).toNatClampNeg) ≤ (I0 (rfC t0 14) (p0).toNatClampNeg) then (
some (0 : Int32))
else (
some (1 : Int32))) else none) else none)
else if (I0 t0 2) = (4 : Int32) then (
if jin p0 16 then (
if jin p1 16 then (
if (I0 (rfC t0 15) (p1).toNatClampNeg) ≤ (I0 (rfC t0 15) (p0).toNatClampNeg) then (
some (0 : Int32))
else (
some (1 : Int32))) else none) else none)
else if (I0 t0 2) = (5 : Int32) then (
if jin p0 16 then (
if jin p1 16 then (
if (I0 (rfC t0 15) (p0).toNatClampNeg) ≤ (I0 (rfC t0 15) (p1).toNatClampNeg) then (
some (0 : Int32))
else (
some (1 : Int32))) else none) else none)
else (
if jin p0 16 then (
if jin p1 16 then (
jlet (
some (1 : Int32)) (fun (k19 : Option (Int32)) =>
if (I0 (rfC t0 16) (p0).toNatClampNeg) < (I0 (rfC t0 16) (p1).toNatClampNeg) then (
k19)
else (
if jin p0 16 then (
if jin p1 16 then (
if (I0 (rfC t0 16) (p0).toNatClampNeg) = (I0 (rfC t0 16) (p1).toNatClampNeg) then (
if jin p0 16 then (
if jin p1 16 then (
if (I0 (rfC t0 15) (p1).toNatClampNeg) ≤ (I0 (rfC t0 15) (p0).toNatClampNeg) then (
some (0 : Int32))
else (
k19)) else none) else none)
else (
some (0 : Int32))) else none) else none))) else none) else none))
else (
some (0 : Int32)))))
set_option maxRecDepth 20000 in
set_option maxHeartbeats 4000000 in
theorem W_X2_goesAhead {Y : jY} {Z : jZ} {Qf : Int32 → State → Prop} (hz0 : Y.zf = false) (t0 : Nat) (ht0 : shC t0 = 3) (p0 : Int32) (p1 : Int32) (I0 : jI) (L0 : jL) (hX : jOK Y Z RX2 cX2_goesAhead 3 "goesAhead" (some .boolean) 1 80 0 0) (hQ : ∀ r : Int32, Qf r = jQ Y Z 0 0 (some (ji r)) NC shC rfC I0 L0) : J Y Z 3 Qf (X2_goesAhead t0 p0 p1 I0) 0 [(0, jr t0), (1, ji p0), (2, ji p1)] [] 0 0 NC shC rfC I0 L0 := by
  unfold X2_goesAhead
  refine J_iload_n (pc := 0) hX 1 rfl dX2_goesAhead_0 ?_
  refine J_if_lt (pc := 1) hX (tgt := 20) (by decide) dX2_goesAhead_1 (fun h1 => ?_) (fun h1 => ?_)
  · refine J_iconst (pc := 20) hX (v := (0 : Int32)) (by decide) dX2_goesAhead_20 ?_
    exact J_zret (pc := 21) hX (by decide) (hQ _) dX2_goesAhead_21
  · refine J_iload_n (pc := 4) hX 1 rfl dX2_goesAhead_4 ?_
    refine J_bipush (pc := 5) hX (v := (16 : Int32)) (by decide) dX2_goesAhead_5 ?_
    refine J_icmp_ge (pc := 7) hX (tgt := 20) (by decide) dX2_goesAhead_7 (fun h2 => ?_) (fun h2 => ?_)
    · refine J_iconst (pc := 20) hX (v := (0 : Int32)) (by decide) dX2_goesAhead_20 ?_
      exact J_zret (pc := 21) hX (by decide) (hQ _) dX2_goesAhead_21
    · refine J_iload_n (pc := 10) hX 2 rfl dX2_goesAhead_10 ?_
      refine J_if_lt (pc := 11) hX (tgt := 20) (by decide) dX2_goesAhead_11 (fun h3 => ?_) (fun h3 => ?_)
      · refine J_iconst (pc := 20) hX (v := (0 : Int32)) (by decide) dX2_goesAhead_20 ?_
        exact J_zret (pc := 21) hX (by decide) (hQ _) dX2_goesAhead_21
      · refine J_iload_n (pc := 14) hX 2 rfl dX2_goesAhead_14 ?_
        refine J_bipush (pc := 15) hX (v := (16 : Int32)) (by decide) dX2_goesAhead_15 ?_
        refine J_icmp_lt (pc := 17) hX (tgt := 22) (by decide) dX2_goesAhead_17 (fun h4 => ?_) (fun h4 => ?_)
        · refine J_aload_n (pc := 22) hX 0 rfl dX2_goesAhead_22 ?_
          refine g_X2_44 (pc := 23) hX ht0 dX2_goesAhead_23 ?_
          refine J_swc (3 : Int32) (fun h5 => ?_) (fun h5 => ?_)
          · refine J_swIn (pc := 26) hX (tgt := 52) (off := 26) (3 : Int32) h5 (by decide) (by decide) rfl (by decide) dX2_goesAhead_26 ?_
            refine J_aload_n (pc := 52) hX 0 rfl dX2_goesAhead_52 ?_
            refine g_X2_22 (pc := 53) hX ht0 dX2_goesAhead_53 ?_
            refine J_iload_n (pc := 56) hX 1 rfl dX2_goesAhead_56 ?_
            refine J_iald (pc := 57) hX (N := 16) (fs_2_14 t0 ht0) (by decide) dX2_goesAhead_57 (fun h6 => ?_)
            refine J_aload_n (pc := 58) hX 0 rfl dX2_goesAhead_58 ?_
            refine g_X2_22 (pc := 59) hX ht0 dX2_goesAhead_59 ?_
            refine J_iload_n (pc := 62) hX 2 rfl dX2_goesAhead_62 ?_
            refine J_iald (pc := 63) hX (N := 16) (fs_2_14 t0 ht0) (by decide) dX2_goesAhead_63 (fun h7 => ?_)
            refine J_icmp_ge (pc := 64) hX (tgt := 71) (by decide) dX2_goesAhead_64 (fun h8 => ?_) (fun h8 => ?_)
            · refine J_iconst (pc := 71) hX (v := (0 : Int32)) (by decide) dX2_goesAhead_71 ?_
              exact J_zret (pc := 72) hX (by decide) (hQ _) dX2_goesAhead_72
            · refine J_iconst (pc := 67) hX (v := (1 : Int32)) (by decide) dX2_goesAhead_67 ?_
              refine J_goto (pc := 68) hX (tgt := 72) (by decide) dX2_goesAhead_68 ?_
              exact J_zret (pc := 72) hX (by decide) (hQ _) dX2_goesAhead_72
          refine J_swc (4 : Int32) (fun h9 => ?_) (fun h9 => ?_)
          · refine J_swIn (pc := 26) hX (tgt := 73) (off := 47) (4 : Int32) h9 (by decide) (by decide) rfl (by decide) dX2_goesAhead_26 ?_
            refine J_aload_n (pc := 73) hX 0 rfl dX2_goesAhead_73 ?_
            refine g_X2_25 (pc := 74) hX ht0 dX2_goesAhead_74 ?_
            refine J_iload_n (pc := 77) hX 1 rfl dX2_goesAhead_77 ?_
            refine J_iald (pc := 78) hX (N := 16) (fs_2_15 t0 ht0) (by decide) dX2_goesAhead_78 (fun h10 => ?_)
            refine J_aload_n (pc := 79) hX 0 rfl dX2_goesAhead_79 ?_
            refine g_X2_25 (pc := 80) hX ht0 dX2_goesAhead_80 ?_
            refine J_iload_n (pc := 83) hX 2 rfl dX2_goesAhead_83 ?_
            refine J_iald (pc := 84) hX (N := 16) (fs_2_15 t0 ht0) (by decide) dX2_goesAhead_84 (fun h11 => ?_)
            refine J_icmp_ge (pc := 85) hX (tgt := 92) (by decide) dX2_goesAhead_85 (fun h12 => ?_) (fun h12 => ?_)
            · refine J_iconst (pc := 92) hX (v := (0 : Int32)) (by decide) dX2_goesAhead_92 ?_
              exact J_zret (pc := 93) hX (by decide) (hQ _) dX2_goesAhead_93
            · refine J_iconst (pc := 88) hX (v := (1 : Int32)) (by decide) dX2_goesAhead_88 ?_
              refine J_goto (pc := 89) hX (tgt := 93) (by decide) dX2_goesAhead_89 ?_
              exact J_zret (pc := 93) hX (by decide) (hQ _) dX2_goesAhead_93
          refine J_swc (5 : Int32) (fun h13 => ?_) (fun h13 => ?_)
          · refine J_swIn (pc := 26) hX (tgt := 94) (off := 68) (5 : Int32) h13 (by decide) (by decide) rfl (by decide) dX2_goesAhead_26 ?_
            refine J_aload_n (pc := 94) hX 0 rfl dX2_goesAhead_94 ?_
            refine g_X2_25 (pc := 95) hX ht0 dX2_goesAhead_95 ?_
            refine J_iload_n (pc := 98) hX 1 rfl dX2_goesAhead_98 ?_
            refine J_iald (pc := 99) hX (N := 16) (fs_2_15 t0 ht0) (by decide) dX2_goesAhead_99 (fun h14 => ?_)
            refine J_aload_n (pc := 100) hX 0 rfl dX2_goesAhead_100 ?_
            refine g_X2_25 (pc := 101) hX ht0 dX2_goesAhead_101 ?_
            refine J_iload_n (pc := 104) hX 2 rfl dX2_goesAhead_104 ?_
            refine J_iald (pc := 105) hX (N := 16) (fs_2_15 t0 ht0) (by decide) dX2_goesAhead_105 (fun h15 => ?_)
            refine J_icmp_le (pc := 106) hX (tgt := 113) (by decide) dX2_goesAhead_106 (fun h16 => ?_) (fun h16 => ?_)
            · refine J_iconst (pc := 113) hX (v := (0 : Int32)) (by decide) dX2_goesAhead_113 ?_
              exact J_zret (pc := 114) hX (by decide) (hQ _) dX2_goesAhead_114
            · refine J_iconst (pc := 109) hX (v := (1 : Int32)) (by decide) dX2_goesAhead_109 ?_
              refine J_goto (pc := 110) hX (tgt := 114) (by decide) dX2_goesAhead_110 ?_
              exact J_zret (pc := 114) hX (by decide) (hQ _) dX2_goesAhead_114
          refine J_swOut (pc := 26) hX (tgt := 115) (by decide) (jsw_2 (jsw_1 (b := 6) (5 : Int32) (jsw_1 (b := 5) (4 : Int32) (jsw_1 (b := 4) (3 : Int32) jsw_0 h5 (by decide) (by decide)) h9 (by decide) (by decide)) h13 (by decide) (by decide)) (by decide)) dX2_goesAhead_26 ?_
          refine J_aload_n (pc := 115) hX 0 rfl dX2_goesAhead_115 ?_
          refine g_X2_28 (pc := 116) hX ht0 dX2_goesAhead_116 ?_
          refine J_iload_n (pc := 119) hX 1 rfl dX2_goesAhead_119 ?_
          refine J_iald (pc := 120) hX (N := 16) (fs_2_16 t0 ht0) (by decide) dX2_goesAhead_120 (fun h17 => ?_)
          refine J_aload_n (pc := 121) hX 0 rfl dX2_goesAhead_121 ?_
          refine g_X2_28 (pc := 122) hX ht0 dX2_goesAhead_122 ?_
          refine J_iload_n (pc := 125) hX 2 rfl dX2_goesAhead_125 ?_
          refine J_iald (pc := 126) hX (N := 16) (fs_2_16 t0 ht0) (by decide) dX2_goesAhead_126 (fun h18 => ?_)
          refine J_join (fun (k19 : Option (Int32)) => J Y Z 3 Qf (k19) 160 [] [] 0 0 NC shC rfC I0 L0) ?_ (fun k19 hk19 => ?_)
          · refine J_iconst (pc := 160) hX (v := (1 : Int32)) (by decide) dX2_goesAhead_160 ?_
            refine J_goto (pc := 161) hX (tgt := 165) (by decide) dX2_goesAhead_161 ?_
            exact J_zret (pc := 165) hX (by decide) (hQ _) dX2_goesAhead_165
          refine J_icmp_lt (pc := 127) hX (tgt := 160) (by decide) dX2_goesAhead_127 (fun h20 => ?_) (fun h20 => ?_)
          · refine J_sub [] rfl ?_
            exact hk19
          · refine J_aload_n (pc := 130) hX 0 rfl dX2_goesAhead_130 ?_
            refine g_X2_28 (pc := 131) hX ht0 dX2_goesAhead_131 ?_
            refine J_iload_n (pc := 134) hX 1 rfl dX2_goesAhead_134 ?_
            refine J_iald (pc := 135) hX (N := 16) (fs_2_16 t0 ht0) (by decide) dX2_goesAhead_135 (fun h21 => ?_)
            refine J_aload_n (pc := 136) hX 0 rfl dX2_goesAhead_136 ?_
            refine g_X2_28 (pc := 137) hX ht0 dX2_goesAhead_137 ?_
            refine J_iload_n (pc := 140) hX 2 rfl dX2_goesAhead_140 ?_
            refine J_iald (pc := 141) hX (N := 16) (fs_2_16 t0 ht0) (by decide) dX2_goesAhead_141 (fun h22 => ?_)
            refine J_icmp_ne (pc := 142) hX (tgt := 164) (by decide) dX2_goesAhead_142 (fun h23 => ?_) (fun h23 => ?_)
            · refine J_iconst (pc := 164) hX (v := (0 : Int32)) (by decide) dX2_goesAhead_164 ?_
              exact J_zret (pc := 165) hX (by decide) (hQ _) dX2_goesAhead_165
            · refine J_aload_n (pc := 145) hX 0 rfl dX2_goesAhead_145 ?_
              refine g_X2_25 (pc := 146) hX ht0 dX2_goesAhead_146 ?_
              refine J_iload_n (pc := 149) hX 1 rfl dX2_goesAhead_149 ?_
              refine J_iald (pc := 150) hX (N := 16) (fs_2_15 t0 ht0) (by decide) dX2_goesAhead_150 (fun h24 => ?_)
              refine J_aload_n (pc := 151) hX 0 rfl dX2_goesAhead_151 ?_
              refine g_X2_25 (pc := 152) hX ht0 dX2_goesAhead_152 ?_
              refine J_iload_n (pc := 155) hX 2 rfl dX2_goesAhead_155 ?_
              refine J_iald (pc := 156) hX (N := 16) (fs_2_15 t0 ht0) (by decide) dX2_goesAhead_156 (fun h25 => ?_)
              refine J_icmp_ge (pc := 157) hX (tgt := 164) (by decide) dX2_goesAhead_157 (fun h26 => ?_) (fun h26 => ?_)
              · refine J_iconst (pc := 164) hX (v := (0 : Int32)) (by decide) dX2_goesAhead_164 ?_
                exact J_zret (pc := 165) hX (by decide) (hQ _) dX2_goesAhead_165
              · refine J_sub [] rfl ?_
                exact hk19
        · refine J_iconst (pc := 20) hX (v := (0 : Int32)) (by decide) dX2_goesAhead_20 ?_
          exact J_zret (pc := 21) hX (by decide) (hQ _) dX2_goesAhead_21
theorem C_X2_goesAhead (Y : jY) (hz0 : Y.zf = false) (t0 : Nat) (ht0 : shC t0 = 3) (p0 : Int32) (p1 : Int32) (I0 : jI) (L0 : jL) (r : Int32) (h : X2_goesAhead t0 p0 p1 I0 = some r) : jMet Y yX2_goesAhead cX2_goesAhead 3 (some .boolean) 1 80 0 0 [jr t0, ji p0, ji p1] NC shC rfC I0 L0 (some (ji r)) NC shC rfC I0 L0 :=
  jmet_of _ _ h (fun Z r => jQ Y Z 0 0 (some (ji r)) NC shC rfC I0 L0) (fun _ => rfl) (by decide) (Nat.le_of_ble_eq_true rfl) (fun Z hX => W_X2_goesAhead hz0 t0 ht0 p0 p1 I0 L0 hX (fun _ => rfl))
def X2_notedVictim_F1 (t0 : Nat) (I0 : jI) (g3 : Int32 → Int32 → Option (Int32)) : Int32 → Int32 → Option (Int32) := fun (v1 : Int32) (v2 : Int32) =>
if (I0 t0 0) ≤ v2 then (
some v1)
else (
(X2_pageIn t0 v2 I0).bind (fun (y5 : Int32) =>
jlet (fun (v7 : Int32) =>
g3 v7 (v2 + (1 : Int32))) (fun (k8 : Int32 → Option (Int32)) =>
if y5 = (-1 : Int32) then (
k8 v1)
else (
jlet (
k8 v2) (fun (k10 : Option (Int32)) =>
if v1 = (-1 : Int32) then (
k10)
else (
(X2_goesAhead t0 v2 v1 I0).bind (fun (y12 : Int32) =>
if y12 = 0 then (
k8 v1)
else (
k10))))))))
def X2_notedVictim (t0 : Nat) (I0 : jI) : Option (Int32) :=
jfx (X2_notedVictim_F1 t0 I0) (fun _ _ => none) 1000 (-1 : Int32) (0 : Int32)
set_option maxRecDepth 20000 in
set_option maxHeartbeats 4000000 in
theorem W_X2_notedVictim {Y : jY} {Z : jZ} {Qf : Int32 → State → Prop} (hz0 : Y.zf = false) (t0 : Nat) (ht0 : shC t0 = 3) (I0 : jI) (L0 : jL) (hX : jOK Y Z RX2 cX2_notedVictim 3 "notedVictim" (some .int) 2 102 0 0) (hQ : ∀ r : Int32, Qf r = jQ Y Z 0 0 (some (ji r)) NC shC rfC I0 L0) : J Y Z 3 Qf (X2_notedVictim t0 I0) 0 [(0, jr t0)] [] 0 0 NC shC rfC I0 L0 := by
  unfold X2_notedVictim
  refine J_iconst (pc := 0) hX (v := (-1 : Int32)) (by decide) dX2_notedVictim_0 ?_
  refine J_istore_n (pc := 1) hX (lo' := [(1, ji (-1 : Int32)), (0, jr t0)]) (by decide) rfl dX2_notedVictim_1 ?_
  refine J_iconst (pc := 2) hX (v := (0 : Int32)) (by decide) dX2_notedVictim_2 ?_
  refine J_istore_n (pc := 3) hX (lo' := [(2, ji (0 : Int32)), (1, ji (-1 : Int32)), (0, jr t0)]) (by decide) rfl dX2_notedVictim_3 ?_
  have lhg3 : ∀ mq : Nat, ∀ (v1 : Int32) (v2 : Int32), J Y Z 3 Qf (jfx (X2_notedVictim_F1 t0 I0) (fun _ _ => none) mq v1 v2) 4 [(0, jr t0), (1, ji v1), (2, ji v2)] [] 0 0 NC shC rfC I0 L0 := by
    intro mq
    refine jfx_J (fun (_ : Nat) (g3 : Int32 → Int32 → Option (Int32)) => ∀ (v1 : Int32) (v2 : Int32), J Y Z 3 Qf (g3 v1 v2) 4 [(0, jr t0), (1, ji v1), (2, ji v2)] [] 0 0 NC shC rfC I0 L0) ?_ (fun _ g3 hg3 => ?_) mq
    · intro v1 v2
      exact J_none
    intro v1 v2
    unfold X2_notedVictim_F1
    try dsimp only
    refine J_iload_n (pc := 4) hX 2 rfl dX2_notedVictim_4 ?_
    refine J_aload_n (pc := 5) hX 0 rfl dX2_notedVictim_5 ?_
    refine g_X2_37 (pc := 6) hX ht0 dX2_notedVictim_6 ?_
    refine J_icmp_ge (pc := 9) hX (tgt := 43) (by decide) dX2_notedVictim_9 (fun h4 => ?_) (fun h4 => ?_)
    · refine J_iload_n (pc := 43) hX 1 rfl dX2_notedVictim_43 ?_
      exact J_iret (pc := 44) hX (hQ _) dX2_notedVictim_44
    · refine J_aload_n (pc := 12) hX 0 rfl dX2_notedVictim_12 ?_
      refine J_iload_n (pc := 13) hX 2 rfl dX2_notedVictim_13 ?_
      refine J_call1 (fun y5 e6 => ?_)
      refine jrun_i (pc := 14) (jRunV hX s_X2_90 (ci := 2) (T := TX2) (N := 19) (As := [ji v2]) (rest := []) rfl (by decide) (C_X2_pageIn Y hz0 t0 ht0 v2 I0 L0 y5 e6) ht0 rfl rfl ⟨by decide, by decide⟩ ⟨Nat.le_of_ble_eq_true rfl, Nat.le_of_ble_eq_true rfl⟩ (Nat.le_of_ble_eq_true rfl) dX2_notedVictim_14) ?_
      refine J_iconst (pc := 17) hX (v := (-1 : Int32)) (by decide) dX2_notedVictim_17 ?_
      refine J_join (fun (k8 : Int32 → Option (Int32)) => ∀ (v7 : Int32), J Y Z 3 Qf (k8 v7) 37 [(0, jr t0), (1, ji v7), (2, ji v2)] [] 0 0 NC shC rfC I0 L0) ?_ (fun k8 hk8 => ?_)
      · intro v7
        try dsimp only
        refine J_iinc (pc := 37) hX (v := (v2 + (1 : Int32))) (lo' := [(2, ji (v2 + (1 : Int32))), (0, jr t0), (1, ji v7)]) 2 rfl (by rfl) (by decide) rfl dX2_notedVictim_37 ?_
        refine J_goto (pc := 40) hX (tgt := 4) (by decide) dX2_notedVictim_40 ?_
        refine J_sub [1, 2, 0] rfl ?_
        exact hg3 v7 (v2 + (1 : Int32))
      refine J_icmp_eq (pc := 18) hX (tgt := 37) (by decide) dX2_notedVictim_18 (fun h9 => ?_) (fun h9 => ?_)
      · exact hk8 v1
      · refine J_iload_n (pc := 21) hX 1 rfl dX2_notedVictim_21 ?_
        refine J_iconst (pc := 22) hX (v := (-1 : Int32)) (by decide) dX2_notedVictim_22 ?_
        refine J_join (fun (k10 : Option (Int32)) => J Y Z 3 Qf (k10) 35 [(0, jr t0), (2, ji v2)] [] 0 0 NC shC rfC I0 L0) ?_ (fun k10 hk10 => ?_)
        · refine J_iload_n (pc := 35) hX 1 rfl dX2_notedVictim_35 ?_
          refine J_istore_n (pc := 36) hX (lo' := [(1, ji v2), (0, jr t0), (2, ji v2)]) (by decide) rfl dX2_notedVictim_36 ?_
          refine J_sub [1, 0, 2] rfl ?_
          exact hk8 v2
        refine J_icmp_eq (pc := 23) hX (tgt := 35) (by decide) dX2_notedVictim_23 (fun h11 => ?_) (fun h11 => ?_)
        · refine J_sub [0, 2] rfl ?_
          exact hk10
        · refine J_aload_n (pc := 26) hX 0 rfl dX2_notedVictim_26 ?_
          refine J_iload_n (pc := 27) hX 2 rfl dX2_notedVictim_27 ?_
          refine J_iload_n (pc := 28) hX 1 rfl dX2_notedVictim_28 ?_
          refine J_call1 (fun y12 e13 => ?_)
          refine jrun_i (pc := 29) (jRunV hX s_X2_94 (ci := 2) (T := TX2) (N := 19) (As := [ji v2, ji v1]) (rest := []) rfl (by decide) (C_X2_goesAhead Y hz0 t0 ht0 v2 v1 I0 L0 y12 e13) ht0 rfl rfl ⟨by decide, by decide⟩ ⟨Nat.le_of_ble_eq_true rfl, Nat.le_of_ble_eq_true rfl⟩ (Nat.le_of_ble_eq_true rfl) dX2_notedVictim_29) ?_
          refine J_if_eq (pc := 32) hX (tgt := 37) (by decide) dX2_notedVictim_32 (fun h14 => ?_) (fun h14 => ?_)
          · exact hk8 v1
          · refine J_sub [0, 2] rfl ?_
            exact hk10
  refine J_sub [2, 1, 0] rfl ?_
  exact lhg3 1000 (-1 : Int32) (0 : Int32)
theorem C_X2_notedVictim (Y : jY) (hz0 : Y.zf = false) (t0 : Nat) (ht0 : shC t0 = 3) (I0 : jI) (L0 : jL) (r : Int32) (h : X2_notedVictim t0 I0 = some r) : jMet Y yX2_notedVictim cX2_notedVictim 3 (some .int) 2 102 0 0 [jr t0] NC shC rfC I0 L0 (some (ji r)) NC shC rfC I0 L0 :=
  jmet_of _ _ h (fun Z r => jQ Y Z 0 0 (some (ji r)) NC shC rfC I0 L0) (fun _ => rfl) (by decide) (Nat.le_of_ble_eq_true rfl) (fun Z hX => W_X2_notedVictim hz0 t0 ht0 I0 L0 hX (fun _ => rfl))
def X2_slotBehind (t0 : Nat) (p0 : Int32) (I0 : jI) : Option (Int32) :=
if (I0 t0 0) ≤ (p0 + (1 : Int32)) then (
some (0 : Int32))
else (
some (p0 + (1 : Int32)))
set_option maxRecDepth 20000 in
set_option maxHeartbeats 4000000 in
theorem W_X2_slotBehind {Y : jY} {Z : jZ} {Qf : Int32 → State → Prop} (hz0 : Y.zf = false) (t0 : Nat) (ht0 : shC t0 = 3) (p0 : Int32) (I0 : jI) (L0 : jL) (hX : jOK Y Z RX2 cX2_slotBehind 2 "slotBehind" (some .int) 1 80 0 0) (hQ : ∀ r : Int32, Qf r = jQ Y Z 0 0 (some (ji r)) NC shC rfC I0 L0) : J Y Z 2 Qf (X2_slotBehind t0 p0 I0) 0 [(0, jr t0), (1, ji p0)] [] 0 0 NC shC rfC I0 L0 := by
  unfold X2_slotBehind
  refine J_iload_n (pc := 0) hX 1 rfl dX2_slotBehind_0 ?_
  refine J_iconst (pc := 1) hX (v := (1 : Int32)) (by decide) dX2_slotBehind_1 ?_
  refine J_iadd (pc := 2) hX dX2_slotBehind_2 ?_
  refine J_aload_n (pc := 3) hX 0 rfl dX2_slotBehind_3 ?_
  refine g_X2_37 (pc := 4) hX ht0 dX2_slotBehind_4 ?_
  refine J_icmp_ge (pc := 7) hX (tgt := 16) (by decide) dX2_slotBehind_7 (fun h1 => ?_) (fun h1 => ?_)
  · refine J_iconst (pc := 16) hX (v := (0 : Int32)) (by decide) dX2_slotBehind_16 ?_
    exact J_iret (pc := 17) hX (hQ _) dX2_slotBehind_17
  · refine J_iload_n (pc := 10) hX 1 rfl dX2_slotBehind_10 ?_
    refine J_iconst (pc := 11) hX (v := (1 : Int32)) (by decide) dX2_slotBehind_11 ?_
    refine J_iadd (pc := 12) hX dX2_slotBehind_12 ?_
    refine J_goto (pc := 13) hX (tgt := 17) (by decide) dX2_slotBehind_13 ?_
    exact J_iret (pc := 17) hX (hQ _) dX2_slotBehind_17
theorem C_X2_slotBehind (Y : jY) (hz0 : Y.zf = false) (t0 : Nat) (ht0 : shC t0 = 3) (p0 : Int32) (I0 : jI) (L0 : jL) (r : Int32) (h : X2_slotBehind t0 p0 I0 = some r) : jMet Y yX2_slotBehind cX2_slotBehind 2 (some .int) 1 80 0 0 [jr t0, ji p0] NC shC rfC I0 L0 (some (ji r)) NC shC rfC I0 L0 :=
  jmet_of _ _ h (fun Z r => jQ Y Z 0 0 (some (ji r)) NC shC rfC I0 L0) (fun _ => rfl) (by decide) (Nat.le_of_ble_eq_true rfl) (fun Z hX => W_X2_slotBehind hz0 t0 ht0 p0 I0 L0 hX (fun _ => rfl))
def X2_clockVictim_F1 (t0 : Nat) (k4 : Int32 → jI → Option (Int32 × jI)) (g11 : Int32 → Int32 → jI → Option (Int32 × jI)) : Int32 → Int32 → jI → Option (Int32 × jI) := fun (v8 : Int32) (v9 : Int32) (I10 : jI) =>
if (I10 t0 0) ≤ v9 then (
k4 v8 I10)
else (
(X2_isSlot v8).bind (fun (y13 : Int32) =>
if y13 = 0 then (
k4 v8 I10)
else (
if jin v8 16 then (
if (I10 (rfC t0 17) (v8).toNatClampNeg) = 0 then (
k4 v8 I10)
else (
if jin v8 16 then jlet (jup I10 (rfC t0 17) (v8).toNatClampNeg (jnz (0 : Int32))) (fun (I19 : jI) =>
(X2_slotBehind t0 v8 I19).bind (fun (y20 : Int32) =>
g11 y20 (v9 + (1 : Int32)) I19)) else none)) else none)))
def X2_clockVictim (t0 : Nat) (I0 : jI) : Option (Int32 × jI) :=
jlet ((I0 t0 3)) (fun (y1 : Int32) =>
jlet (fun (v2 : Int32) (I3 : jI) =>
(X2_slotBehind t0 v2 I3).bind (fun (y5 : Int32) =>
jlet (jup I3 t0 3 y5) (fun (I7 : jI) =>
some (v2, I7)))) (fun (k4 : Int32 → jI → Option (Int32 × jI)) =>
jfx (X2_clockVictim_F1 t0 k4) (fun _ _ _ => none) 1000 y1 (0 : Int32) I0))
set_option maxRecDepth 20000 in
set_option maxHeartbeats 4000000 in
theorem W_X2_clockVictim {Y : jY} {Z : jZ} {Qf : Int32 × jI → State → Prop} (hz0 : Y.zf = false) (t0 : Nat) (ht0 : shC t0 = 3) (I0 : jI) (L0 : jL) (hX : jOK Y Z RX2 cX2_clockVictim 3 "clockVictim" (some .int) 2 101 0 0) (hQ : ∀ r : Int32 × jI, Qf r = jQ Y Z 0 0 (some (ji r.1)) NC shC rfC r.2 L0) : J Y Z 3 Qf (X2_clockVictim t0 I0) 0 [(0, jr t0)] [] 0 0 NC shC rfC I0 L0 := by
  unfold X2_clockVictim
  refine J_aload_n (pc := 0) hX 0 rfl dX2_clockVictim_0 ?_
  refine g_X2_68 (pc := 1) hX ht0 dX2_clockVictim_1 ?_
  refine J_leti (fun y1 => ?_)
  refine J_istore_n (pc := 4) hX (lo' := [(1, ji y1), (0, jr t0)]) (by decide) rfl dX2_clockVictim_4 ?_
  refine J_iconst (pc := 5) hX (v := (0 : Int32)) (by decide) dX2_clockVictim_5 ?_
  refine J_istore_n (pc := 6) hX (lo' := [(2, ji (0 : Int32)), (1, ji y1), (0, jr t0)]) (by decide) rfl dX2_clockVictim_6 ?_
  refine J_join (fun (k4 : Int32 → jI → Option (Int32 × jI)) => ∀ (v2 : Int32) (I3 : jI), J Y Z 3 Qf (k4 v2 I3) 50 [(0, jr t0), (1, ji v2)] [] 0 0 NC shC rfC I3 L0) ?_ (fun k4 hk4 => ?_)
  · intro v2 I3
    try dsimp only
    refine J_aload_n (pc := 50) hX 0 rfl dX2_clockVictim_50 ?_
    refine J_aload_n (pc := 51) hX 0 rfl dX2_clockVictim_51 ?_
    refine J_iload_n (pc := 52) hX 1 rfl dX2_clockVictim_52 ?_
    refine J_call1 (fun y5 e6 => ?_)
    refine jrun_i (pc := 53) (jRunV hX s_X2_98 (ci := 2) (T := TX2) (N := 19) (As := [ji v2]) (rest := [jr t0]) rfl (by decide) (C_X2_slotBehind Y hz0 t0 ht0 v2 I3 L0 y5 e6) ht0 rfl rfl ⟨by decide, by decide⟩ ⟨Nat.le_of_ble_eq_true rfl, Nat.le_of_ble_eq_true rfl⟩ (Nat.le_of_ble_eq_true rfl) dX2_clockVictim_53) ?_
    refine p_X2_68 (pc := 56) hX ht0 dX2_clockVictim_56 (fun I7 => ?_)
    refine J_iload_n (pc := 59) hX 1 rfl dX2_clockVictim_59 ?_
    exact J_iret (pc := 60) hX (hQ _) dX2_clockVictim_60
  have lhg11 : ∀ mq : Nat, ∀ (v8 : Int32) (v9 : Int32) (I10 : jI), J Y Z 3 Qf (jfx (X2_clockVictim_F1 t0 k4) (fun _ _ _ => none) mq v8 v9 I10) 7 [(0, jr t0), (1, ji v8), (2, ji v9)] [] 0 0 NC shC rfC I10 L0 := by
    intro mq
    refine jfx_J (fun (_ : Nat) (g11 : Int32 → Int32 → jI → Option (Int32 × jI)) => ∀ (v8 : Int32) (v9 : Int32) (I10 : jI), J Y Z 3 Qf (g11 v8 v9 I10) 7 [(0, jr t0), (1, ji v8), (2, ji v9)] [] 0 0 NC shC rfC I10 L0) ?_ (fun _ g11 hg11 => ?_) mq
    · intro v8 v9 I10
      exact J_none
    intro v8 v9 I10
    unfold X2_clockVictim_F1
    try dsimp only
    refine J_iload_n (pc := 7) hX 2 rfl dX2_clockVictim_7 ?_
    refine J_aload_n (pc := 8) hX 0 rfl dX2_clockVictim_8 ?_
    refine g_X2_37 (pc := 9) hX ht0 dX2_clockVictim_9 ?_
    refine J_icmp_ge (pc := 12) hX (tgt := 50) (by decide) dX2_clockVictim_12 (fun h12 => ?_) (fun h12 => ?_)
    · refine J_sub [0, 1] rfl ?_
      exact hk4 v8 I10
    · refine J_iload_n (pc := 15) hX 1 rfl dX2_clockVictim_15 ?_
      refine J_call1 (fun y13 e14 => ?_)
      refine jrun_i (pc := 16) (jRunS hX s_X2_80 (As := [ji v8]) (rest := []) (C_X2_isSlot Y hz0 v8 I10 L0 y13 e14) rfl rfl ⟨by decide, by decide⟩ ⟨Nat.le_of_ble_eq_true rfl, Nat.le_of_ble_eq_true rfl⟩ (Nat.le_of_ble_eq_true rfl) dX2_clockVictim_16) ?_
      refine J_if_eq (pc := 19) hX (tgt := 50) (by decide) dX2_clockVictim_19 (fun h15 => ?_) (fun h15 => ?_)
      · refine J_sub [0, 1] rfl ?_
        exact hk4 v8 I10
      · refine J_aload_n (pc := 22) hX 0 rfl dX2_clockVictim_22 ?_
        refine g_X2_31 (pc := 23) hX ht0 dX2_clockVictim_23 ?_
        refine J_iload_n (pc := 26) hX 1 rfl dX2_clockVictim_26 ?_
        refine J_zald (pc := 27) hX (N := 16) (fs_2_17 t0 ht0) (by decide) dX2_clockVictim_27 (fun h16 => ?_)
        refine J_if_eq (pc := 28) hX (tgt := 50) (by decide) dX2_clockVictim_28 (fun h17 => ?_) (fun h17 => ?_)
        · refine J_sub [0, 1] rfl ?_
          exact hk4 v8 I10
        · refine J_aload_n (pc := 31) hX 0 rfl dX2_clockVictim_31 ?_
          refine g_X2_31 (pc := 32) hX ht0 dX2_clockVictim_32 ?_
          refine J_iload_n (pc := 35) hX 1 rfl dX2_clockVictim_35 ?_
          refine J_iconst (pc := 36) hX (v := (0 : Int32)) (by decide) dX2_clockVictim_36 ?_
          refine J_zast (pc := 37) hX (N := 16) (fs_2_17 t0 ht0) (by decide) dX2_clockVictim_37 (fun h18 I19 => ?_)
          refine J_aload_n (pc := 38) hX 0 rfl dX2_clockVictim_38 ?_
          refine J_iload_n (pc := 39) hX 1 rfl dX2_clockVictim_39 ?_
          refine J_call1 (fun y20 e21 => ?_)
          refine jrun_i (pc := 40) (jRunV hX s_X2_98 (ci := 2) (T := TX2) (N := 19) (As := [ji v8]) (rest := []) rfl (by decide) (C_X2_slotBehind Y hz0 t0 ht0 v8 I19 L0 y20 e21) ht0 rfl rfl ⟨by decide, by decide⟩ ⟨Nat.le_of_ble_eq_true rfl, Nat.le_of_ble_eq_true rfl⟩ (Nat.le_of_ble_eq_true rfl) dX2_clockVictim_40) ?_
          refine J_istore_n (pc := 43) hX (lo' := [(1, ji y20), (0, jr t0), (2, ji v9)]) (by decide) rfl dX2_clockVictim_43 ?_
          refine J_iinc (pc := 44) hX (v := (v9 + (1 : Int32))) (lo' := [(2, ji (v9 + (1 : Int32))), (1, ji y20), (0, jr t0)]) 2 rfl (by rfl) (by decide) rfl dX2_clockVictim_44 ?_
          refine J_goto (pc := 47) hX (tgt := 7) (by decide) dX2_clockVictim_47 ?_
          refine J_sub [2, 1, 0] rfl ?_
          exact hg11 y20 (v9 + (1 : Int32)) I19
  refine J_sub [2, 1, 0] rfl ?_
  exact lhg11 1000 y1 (0 : Int32) I0
theorem C_X2_clockVictim (Y : jY) (hz0 : Y.zf = false) (t0 : Nat) (ht0 : shC t0 = 3) (I0 : jI) (L0 : jL) (r : Int32) (I1 : jI) (h : X2_clockVictim t0 I0 = some (r, I1)) : jMet Y yX2_clockVictim cX2_clockVictim 3 (some .int) 2 101 0 0 [jr t0] NC shC rfC I0 L0 (some (ji r)) NC shC rfC I1 L0 :=
  jmet_of _ _ h (fun Z r => jQ Y Z 0 0 (some (ji r.1)) NC shC rfC r.2 L0) (fun _ => rfl) (by decide) (Nat.le_of_ble_eq_true rfl) (fun Z hX => W_X2_clockVictim hz0 t0 ht0 I0 L0 hX (fun _ => rfl))
def X2_greatestOf_F1 (t0 : Nat) (p0 : Nat) (I0 : jI) (g3 : Int32 → Int32 → Option (Int32)) : Int32 → Int32 → Option (Int32) := fun (v1 : Int32) (v2 : Int32) =>
if (I0 t0 0) ≤ v2 then (
some v1)
else (
if (16 : Int32) ≤ v2 then (
some v1)
else (
(X2_pageIn t0 v2 I0).bind (fun (y6 : Int32) =>
jlet (fun (v8 : Int32) =>
g3 v8 (v2 + (1 : Int32))) (fun (k9 : Int32 → Option (Int32)) =>
if y6 = (-1 : Int32) then (
k9 v1)
else (
if jin v2 16 then (
jlet ((jmax v1 (I0 p0 (v2).toNatClampNeg))) (fun (y12 : Int32) =>
k9 y12)) else none)))))
def X2_greatestOf (t0 : Nat) (p0 : Nat) (I0 : jI) : Option (Int32) :=
jfx (X2_greatestOf_F1 t0 p0 I0) (fun _ _ => none) 1000 (-1 : Int32) (0 : Int32)
set_option maxRecDepth 20000 in
set_option maxHeartbeats 4000000 in
theorem W_X2_greatestOf {Y : jY} {Z : jZ} {Qf : Int32 → State → Prop} (hz0 : Y.zf = false) (t0 : Nat) (ht0 : shC t0 = 3) (p0 : Nat) (hp0 : shC p0 = 1016) (I0 : jI) (L0 : jL) (hX : jOK Y Z RX2 cX2_greatestOf 4 "greatestOf" (some .int) 2 101 0 0) (hQ : ∀ r : Int32, Qf r = jQ Y Z 0 0 (some (ji r)) NC shC rfC I0 L0) : J Y Z 4 Qf (X2_greatestOf t0 p0 I0) 0 [(0, jr t0), (1, jr p0)] [] 0 0 NC shC rfC I0 L0 := by
  unfold X2_greatestOf
  refine J_iconst (pc := 0) hX (v := (-1 : Int32)) (by decide) dX2_greatestOf_0 ?_
  refine J_istore_n (pc := 1) hX (lo' := [(2, ji (-1 : Int32)), (0, jr t0), (1, jr p0)]) (by decide) rfl dX2_greatestOf_1 ?_
  refine J_iconst (pc := 2) hX (v := (0 : Int32)) (by decide) dX2_greatestOf_2 ?_
  refine J_istore_n (pc := 3) hX (lo' := [(3, ji (0 : Int32)), (2, ji (-1 : Int32)), (0, jr t0), (1, jr p0)]) (by decide) rfl dX2_greatestOf_3 ?_
  have lhg3 : ∀ mq : Nat, ∀ (v1 : Int32) (v2 : Int32), J Y Z 4 Qf (jfx (X2_greatestOf_F1 t0 p0 I0) (fun _ _ => none) mq v1 v2) 4 [(0, jr t0), (1, jr p0), (2, ji v1), (3, ji v2)] [] 0 0 NC shC rfC I0 L0 := by
    intro mq
    refine jfx_J (fun (_ : Nat) (g3 : Int32 → Int32 → Option (Int32)) => ∀ (v1 : Int32) (v2 : Int32), J Y Z 4 Qf (g3 v1 v2) 4 [(0, jr t0), (1, jr p0), (2, ji v1), (3, ji v2)] [] 0 0 NC shC rfC I0 L0) ?_ (fun _ g3 hg3 => ?_) mq
    · intro v1 v2
      exact J_none
    intro v1 v2
    unfold X2_greatestOf_F1
    try dsimp only
    refine J_iload_n (pc := 4) hX 3 rfl dX2_greatestOf_4 ?_
    refine J_aload_n (pc := 5) hX 0 rfl dX2_greatestOf_5 ?_
    refine g_X2_37 (pc := 6) hX ht0 dX2_greatestOf_6 ?_
    refine J_icmp_ge (pc := 9) hX (tgt := 41) (by decide) dX2_greatestOf_9 (fun h4 => ?_) (fun h4 => ?_)
    · refine J_iload_n (pc := 41) hX 2 rfl dX2_greatestOf_41 ?_
      exact J_iret (pc := 42) hX (hQ _) dX2_greatestOf_42
    · refine J_iload_n (pc := 12) hX 3 rfl dX2_greatestOf_12 ?_
      refine J_aload_n (pc := 13) hX 1 rfl dX2_greatestOf_13 ?_
      refine J_alen (pc := 14) hX (v := (16 : Int32)) hp0 (by decide) dX2_greatestOf_14 ?_
      refine J_icmp_ge (pc := 15) hX (tgt := 41) (by decide) dX2_greatestOf_15 (fun h5 => ?_) (fun h5 => ?_)
      · refine J_iload_n (pc := 41) hX 2 rfl dX2_greatestOf_41 ?_
        exact J_iret (pc := 42) hX (hQ _) dX2_greatestOf_42
      · refine J_aload_n (pc := 18) hX 0 rfl dX2_greatestOf_18 ?_
        refine J_iload_n (pc := 19) hX 3 rfl dX2_greatestOf_19 ?_
        refine J_call1 (fun y6 e7 => ?_)
        refine jrun_i (pc := 20) (jRunV hX s_X2_90 (ci := 2) (T := TX2) (N := 19) (As := [ji v2]) (rest := []) rfl (by decide) (C_X2_pageIn Y hz0 t0 ht0 v2 I0 L0 y6 e7) ht0 rfl rfl ⟨by decide, by decide⟩ ⟨Nat.le_of_ble_eq_true rfl, Nat.le_of_ble_eq_true rfl⟩ (Nat.le_of_ble_eq_true rfl) dX2_greatestOf_20) ?_
        refine J_iconst (pc := 23) hX (v := (-1 : Int32)) (by decide) dX2_greatestOf_23 ?_
        refine J_join (fun (k9 : Int32 → Option (Int32)) => ∀ (v8 : Int32), J Y Z 4 Qf (k9 v8) 35 [(0, jr t0), (1, jr p0), (2, ji v8), (3, ji v2)] [] 0 0 NC shC rfC I0 L0) ?_ (fun k9 hk9 => ?_)
        · intro v8
          try dsimp only
          refine J_iinc (pc := 35) hX (v := (v2 + (1 : Int32))) (lo' := [(3, ji (v2 + (1 : Int32))), (0, jr t0), (1, jr p0), (2, ji v8)]) 3 rfl (by rfl) (by decide) rfl dX2_greatestOf_35 ?_
          refine J_goto (pc := 38) hX (tgt := 4) (by decide) dX2_greatestOf_38 ?_
          refine J_sub [1, 2, 3, 0] rfl ?_
          exact hg3 v8 (v2 + (1 : Int32))
        refine J_icmp_eq (pc := 24) hX (tgt := 35) (by decide) dX2_greatestOf_24 (fun h10 => ?_) (fun h10 => ?_)
        · exact hk9 v1
        · refine J_iload_n (pc := 27) hX 2 rfl dX2_greatestOf_27 ?_
          refine J_aload_n (pc := 28) hX 1 rfl dX2_greatestOf_28 ?_
          refine J_iload_n (pc := 29) hX 3 rfl dX2_greatestOf_29 ?_
          refine J_iald (pc := 30) hX (N := 16) hp0 (by decide) dX2_greatestOf_30 (fun h11 => ?_)
          refine J_mmax (pc := 31) hX m_X2_112 ⟨by decide, by decide⟩ ⟨Nat.le_of_ble_eq_true rfl, Nat.le_of_ble_eq_true rfl⟩ (Nat.le_of_ble_eq_true rfl) dX2_greatestOf_31 ?_
          refine J_leti (fun y12 => ?_)
          refine J_istore_n (pc := 34) hX (lo' := [(2, ji y12), (0, jr t0), (1, jr p0), (3, ji v2)]) (by decide) rfl dX2_greatestOf_34 ?_
          refine J_sub [1, 2, 0, 3] rfl ?_
          exact hk9 y12
  refine J_sub [2, 3, 1, 0] rfl ?_
  exact lhg3 1000 (-1 : Int32) (0 : Int32)
theorem C_X2_greatestOf (Y : jY) (hz0 : Y.zf = false) (t0 : Nat) (ht0 : shC t0 = 3) (p0 : Nat) (hp0 : shC p0 = 1016) (I0 : jI) (L0 : jL) (r : Int32) (h : X2_greatestOf t0 p0 I0 = some r) : jMet Y yX2_greatestOf cX2_greatestOf 4 (some .int) 2 101 0 0 [jr t0, jr p0] NC shC rfC I0 L0 (some (ji r)) NC shC rfC I0 L0 :=
  jmet_of _ _ h (fun Z r => jQ Y Z 0 0 (some (ji r)) NC shC rfC I0 L0) (fun _ => rfl) (by decide) (Nat.le_of_ble_eq_true rfl) (fun Z hX => W_X2_greatestOf hz0 t0 ht0 p0 hp0 I0 L0 hX (fun _ => rfl))
def X2_leastOf_F1 (t0 : Nat) (p0 : Nat) (I0 : jI) (g3 : Int32 → Int32 → Option (Int32)) : Int32 → Int32 → Option (Int32) := fun (v1 : Int32) (v2 : Int32) =>
if (I0 t0 0) ≤ v2 then (
some v1)
else (
if (16 : Int32) ≤ v2 then (
some v1)
else (
(X2_pageIn t0 v2 I0).bind (fun (y6 : Int32) =>
jlet (fun (v8 : Int32) =>
g3 v8 (v2 + (1 : Int32))) (fun (k9 : Int32 → Option (Int32)) =>
if y6 = (-1 : Int32) then (
k9 v1)
else (
jlet (
if jin v2 16 then (
jlet ((I0 p0 (v2).toNatClampNeg)) (fun (y13 : Int32) =>
k9 y13)) else none) (fun (k11 : Option (Int32)) =>
if v1 = (-1 : Int32) then (
k11)
else (
if jin v2 16 then (
if v1 ≤ (I0 p0 (v2).toNatClampNeg) then (
k9 v1)
else (
k11)) else none)))))))
def X2_leastOf (t0 : Nat) (p0 : Nat) (I0 : jI) : Option (Int32) :=
jfx (X2_leastOf_F1 t0 p0 I0) (fun _ _ => none) 1000 (-1 : Int32) (0 : Int32)
set_option maxRecDepth 20000 in
set_option maxHeartbeats 4000000 in
theorem W_X2_leastOf {Y : jY} {Z : jZ} {Qf : Int32 → State → Prop} (hz0 : Y.zf = false) (t0 : Nat) (ht0 : shC t0 = 3) (p0 : Nat) (hp0 : shC p0 = 1016) (I0 : jI) (L0 : jL) (hX : jOK Y Z RX2 cX2_leastOf 4 "leastOf" (some .int) 2 101 0 0) (hQ : ∀ r : Int32, Qf r = jQ Y Z 0 0 (some (ji r)) NC shC rfC I0 L0) : J Y Z 4 Qf (X2_leastOf t0 p0 I0) 0 [(0, jr t0), (1, jr p0)] [] 0 0 NC shC rfC I0 L0 := by
  unfold X2_leastOf
  refine J_iconst (pc := 0) hX (v := (-1 : Int32)) (by decide) dX2_leastOf_0 ?_
  refine J_istore_n (pc := 1) hX (lo' := [(2, ji (-1 : Int32)), (0, jr t0), (1, jr p0)]) (by decide) rfl dX2_leastOf_1 ?_
  refine J_iconst (pc := 2) hX (v := (0 : Int32)) (by decide) dX2_leastOf_2 ?_
  refine J_istore_n (pc := 3) hX (lo' := [(3, ji (0 : Int32)), (2, ji (-1 : Int32)), (0, jr t0), (1, jr p0)]) (by decide) rfl dX2_leastOf_3 ?_
  have lhg3 : ∀ mq : Nat, ∀ (v1 : Int32) (v2 : Int32), J Y Z 4 Qf (jfx (X2_leastOf_F1 t0 p0 I0) (fun _ _ => none) mq v1 v2) 4 [(0, jr t0), (1, jr p0), (2, ji v1), (3, ji v2)] [] 0 0 NC shC rfC I0 L0 := by
    intro mq
    refine jfx_J (fun (_ : Nat) (g3 : Int32 → Int32 → Option (Int32)) => ∀ (v1 : Int32) (v2 : Int32), J Y Z 4 Qf (g3 v1 v2) 4 [(0, jr t0), (1, jr p0), (2, ji v1), (3, ji v2)] [] 0 0 NC shC rfC I0 L0) ?_ (fun _ g3 hg3 => ?_) mq
    · intro v1 v2
      exact J_none
    intro v1 v2
    unfold X2_leastOf_F1
    try dsimp only
    refine J_iload_n (pc := 4) hX 3 rfl dX2_leastOf_4 ?_
    refine J_aload_n (pc := 5) hX 0 rfl dX2_leastOf_5 ?_
    refine g_X2_37 (pc := 6) hX ht0 dX2_leastOf_6 ?_
    refine J_icmp_ge (pc := 9) hX (tgt := 49) (by decide) dX2_leastOf_9 (fun h4 => ?_) (fun h4 => ?_)
    · refine J_iload_n (pc := 49) hX 2 rfl dX2_leastOf_49 ?_
      exact J_iret (pc := 50) hX (hQ _) dX2_leastOf_50
    · refine J_iload_n (pc := 12) hX 3 rfl dX2_leastOf_12 ?_
      refine J_aload_n (pc := 13) hX 1 rfl dX2_leastOf_13 ?_
      refine J_alen (pc := 14) hX (v := (16 : Int32)) hp0 (by decide) dX2_leastOf_14 ?_
      refine J_icmp_ge (pc := 15) hX (tgt := 49) (by decide) dX2_leastOf_15 (fun h5 => ?_) (fun h5 => ?_)
      · refine J_iload_n (pc := 49) hX 2 rfl dX2_leastOf_49 ?_
        exact J_iret (pc := 50) hX (hQ _) dX2_leastOf_50
      · refine J_aload_n (pc := 18) hX 0 rfl dX2_leastOf_18 ?_
        refine J_iload_n (pc := 19) hX 3 rfl dX2_leastOf_19 ?_
        refine J_call1 (fun y6 e7 => ?_)
        refine jrun_i (pc := 20) (jRunV hX s_X2_90 (ci := 2) (T := TX2) (N := 19) (As := [ji v2]) (rest := []) rfl (by decide) (C_X2_pageIn Y hz0 t0 ht0 v2 I0 L0 y6 e7) ht0 rfl rfl ⟨by decide, by decide⟩ ⟨Nat.le_of_ble_eq_true rfl, Nat.le_of_ble_eq_true rfl⟩ (Nat.le_of_ble_eq_true rfl) dX2_leastOf_20) ?_
        refine J_iconst (pc := 23) hX (v := (-1 : Int32)) (by decide) dX2_leastOf_23 ?_
        refine J_join (fun (k9 : Int32 → Option (Int32)) => ∀ (v8 : Int32), J Y Z 4 Qf (k9 v8) 43 [(0, jr t0), (1, jr p0), (2, ji v8), (3, ji v2)] [] 0 0 NC shC rfC I0 L0) ?_ (fun k9 hk9 => ?_)
        · intro v8
          try dsimp only
          refine J_iinc (pc := 43) hX (v := (v2 + (1 : Int32))) (lo' := [(3, ji (v2 + (1 : Int32))), (0, jr t0), (1, jr p0), (2, ji v8)]) 3 rfl (by rfl) (by decide) rfl dX2_leastOf_43 ?_
          refine J_goto (pc := 46) hX (tgt := 4) (by decide) dX2_leastOf_46 ?_
          refine J_sub [1, 2, 3, 0] rfl ?_
          exact hg3 v8 (v2 + (1 : Int32))
        refine J_icmp_eq (pc := 24) hX (tgt := 43) (by decide) dX2_leastOf_24 (fun h10 => ?_) (fun h10 => ?_)
        · exact hk9 v1
        · refine J_iload_n (pc := 27) hX 2 rfl dX2_leastOf_27 ?_
          refine J_iconst (pc := 28) hX (v := (-1 : Int32)) (by decide) dX2_leastOf_28 ?_
          refine J_join (fun (k11 : Option (Int32)) => J Y Z 4 Qf (k11) 39 [(0, jr t0), (1, jr p0), (3, ji v2)] [] 0 0 NC shC rfC I0 L0) ?_ (fun k11 hk11 => ?_)
          · refine J_aload_n (pc := 39) hX 1 rfl dX2_leastOf_39 ?_
            refine J_iload_n (pc := 40) hX 2 rfl dX2_leastOf_40 ?_
            refine J_iald (pc := 41) hX (N := 16) hp0 (by decide) dX2_leastOf_41 (fun h12 => ?_)
            refine J_leti (fun y13 => ?_)
            refine J_istore_n (pc := 42) hX (lo' := [(2, ji y13), (0, jr t0), (1, jr p0), (3, ji v2)]) (by decide) rfl dX2_leastOf_42 ?_
            refine J_sub [1, 2, 0, 3] rfl ?_
            exact hk9 y13
          refine J_icmp_eq (pc := 29) hX (tgt := 39) (by decide) dX2_leastOf_29 (fun h14 => ?_) (fun h14 => ?_)
          · refine J_sub [0, 1, 3] rfl ?_
            exact hk11
          · refine J_aload_n (pc := 32) hX 1 rfl dX2_leastOf_32 ?_
            refine J_iload_n (pc := 33) hX 3 rfl dX2_leastOf_33 ?_
            refine J_iald (pc := 34) hX (N := 16) hp0 (by decide) dX2_leastOf_34 (fun h15 => ?_)
            refine J_iload_n (pc := 35) hX 2 rfl dX2_leastOf_35 ?_
            refine J_icmp_ge (pc := 36) hX (tgt := 43) (by decide) dX2_leastOf_36 (fun h16 => ?_) (fun h16 => ?_)
            · exact hk9 v1
            · refine J_sub [0, 1, 3] rfl ?_
              exact hk11
  refine J_sub [2, 3, 1, 0] rfl ?_
  exact lhg3 1000 (-1 : Int32) (0 : Int32)
theorem C_X2_leastOf (Y : jY) (hz0 : Y.zf = false) (t0 : Nat) (ht0 : shC t0 = 3) (p0 : Nat) (hp0 : shC p0 = 1016) (I0 : jI) (L0 : jL) (r : Int32) (h : X2_leastOf t0 p0 I0 = some r) : jMet Y yX2_leastOf cX2_leastOf 4 (some .int) 2 101 0 0 [jr t0, jr p0] NC shC rfC I0 L0 (some (ji r)) NC shC rfC I0 L0 :=
  jmet_of _ _ h (fun Z r => jQ Y Z 0 0 (some (ji r)) NC shC rfC I0 L0) (fun _ => rfl) (by decide) (Nat.le_of_ble_eq_true rfl) (fun Z hX => W_X2_leastOf hz0 t0 ht0 p0 hp0 I0 L0 hX (fun _ => rfl))
def X2_saysAs (t0 : Nat) (p0 : Int32) (I0 : jI) : Option (Int32) :=
if p0 = (0 : Int32) then (
some (I0 t0 2))
else if p0 = (1 : Int32) then (
(X2_notedVictim t0 I0).bind (fun (y3 : Int32) =>
some y3))
else if p0 = (2 : Int32) then (
some (I0 t0 0))
else if p0 = (3 : Int32) then (
(X2_greatestOf t0 (rfC t0 14) I0).bind (fun (y7 : Int32) =>
some y7))
else if p0 = (4 : Int32) then (
(X2_leastOf t0 (rfC t0 15) I0).bind (fun (y10 : Int32) =>
some y10))
else if p0 = (5 : Int32) then (
(X2_greatestOf t0 (rfC t0 15) I0).bind (fun (y13 : Int32) =>
some y13))
else if p0 = (6 : Int32) then (
(X2_leastOf t0 (rfC t0 16) I0).bind (fun (y16 : Int32) =>
some y16))
else if p0 = (7 : Int32) then (
some (I0 t0 3))
else (
some (I0 t0 4))
set_option maxRecDepth 20000 in
set_option maxHeartbeats 4000000 in
theorem W_X2_saysAs {Y : jY} {Z : jZ} {Qf : Int32 → State → Prop} (hz0 : Y.zf = false) (t0 : Nat) (ht0 : shC t0 = 3) (p0 : Int32) (I0 : jI) (L0 : jL) (hX : jOK Y Z RX2 cX2_saysAs 2 "saysAs" (some .int) 3 124 0 0) (hQ : ∀ r : Int32, Qf r = jQ Y Z 0 0 (some (ji r)) NC shC rfC I0 L0) : J Y Z 2 Qf (X2_saysAs t0 p0 I0) 0 [(0, jr t0), (1, ji p0)] [] 0 0 NC shC rfC I0 L0 := by
  unfold X2_saysAs
  refine J_iload_n (pc := 0) hX 1 rfl dX2_saysAs_0 ?_
  refine J_swc (0 : Int32) (fun h1 => ?_) (fun h1 => ?_)
  · refine J_swIn (pc := 1) hX (tgt := 48) (off := 47) (0 : Int32) h1 (by decide) (by decide) rfl (by decide) dX2_saysAs_1 ?_
    refine J_aload_n (pc := 48) hX 0 rfl dX2_saysAs_48 ?_
    refine g_X2_44 (pc := 49) hX ht0 dX2_saysAs_49 ?_
    exact J_iret (pc := 52) hX (hQ _) dX2_saysAs_52
  refine J_swc (1 : Int32) (fun h2 => ?_) (fun h2 => ?_)
  · refine J_swIn (pc := 1) hX (tgt := 53) (off := 52) (1 : Int32) h2 (by decide) (by decide) rfl (by decide) dX2_saysAs_1 ?_
    refine J_aload_n (pc := 53) hX 0 rfl dX2_saysAs_53 ?_
    refine J_call1 (fun y3 e4 => ?_)
    refine jrun_i (pc := 54) (jRunV hX s_X2_101 (ci := 2) (T := TX2) (N := 19) (As := []) (rest := []) rfl (by decide) (C_X2_notedVictim Y hz0 t0 ht0 I0 L0 y3 e4) ht0 rfl rfl ⟨by decide, by decide⟩ ⟨Nat.le_of_ble_eq_true rfl, Nat.le_of_ble_eq_true rfl⟩ (Nat.le_of_ble_eq_true rfl) dX2_saysAs_54) ?_
    exact J_iret (pc := 57) hX (hQ _) dX2_saysAs_57
  refine J_swc (2 : Int32) (fun h5 => ?_) (fun h5 => ?_)
  · refine J_swIn (pc := 1) hX (tgt := 58) (off := 57) (2 : Int32) h5 (by decide) (by decide) rfl (by decide) dX2_saysAs_1 ?_
    refine J_aload_n (pc := 58) hX 0 rfl dX2_saysAs_58 ?_
    refine g_X2_37 (pc := 59) hX ht0 dX2_saysAs_59 ?_
    exact J_iret (pc := 62) hX (hQ _) dX2_saysAs_62
  refine J_swc (3 : Int32) (fun h6 => ?_) (fun h6 => ?_)
  · refine J_swIn (pc := 1) hX (tgt := 63) (off := 62) (3 : Int32) h6 (by decide) (by decide) rfl (by decide) dX2_saysAs_1 ?_
    refine J_aload_n (pc := 63) hX 0 rfl dX2_saysAs_63 ?_
    refine J_aload_n (pc := 64) hX 0 rfl dX2_saysAs_64 ?_
    refine g_X2_22 (pc := 65) hX ht0 dX2_saysAs_65 ?_
    refine J_call1 (fun y7 e8 => ?_)
    refine jrun_i (pc := 68) (jRunV hX s_X2_105 (ci := 2) (T := TX2) (N := 19) (As := [jr (rfC t0 14)]) (rest := []) rfl (by decide) (C_X2_greatestOf Y hz0 t0 ht0 (rfC t0 14) (fs_2_14 t0 ht0) I0 L0 y7 e8) ht0 rfl rfl ⟨by decide, by decide⟩ ⟨Nat.le_of_ble_eq_true rfl, Nat.le_of_ble_eq_true rfl⟩ (Nat.le_of_ble_eq_true rfl) dX2_saysAs_68) ?_
    exact J_iret (pc := 71) hX (hQ _) dX2_saysAs_71
  refine J_swc (4 : Int32) (fun h9 => ?_) (fun h9 => ?_)
  · refine J_swIn (pc := 1) hX (tgt := 72) (off := 71) (4 : Int32) h9 (by decide) (by decide) rfl (by decide) dX2_saysAs_1 ?_
    refine J_aload_n (pc := 72) hX 0 rfl dX2_saysAs_72 ?_
    refine J_aload_n (pc := 73) hX 0 rfl dX2_saysAs_73 ?_
    refine g_X2_25 (pc := 74) hX ht0 dX2_saysAs_74 ?_
    refine J_call1 (fun y10 e11 => ?_)
    refine jrun_i (pc := 77) (jRunV hX s_X2_109 (ci := 2) (T := TX2) (N := 19) (As := [jr (rfC t0 15)]) (rest := []) rfl (by decide) (C_X2_leastOf Y hz0 t0 ht0 (rfC t0 15) (fs_2_15 t0 ht0) I0 L0 y10 e11) ht0 rfl rfl ⟨by decide, by decide⟩ ⟨Nat.le_of_ble_eq_true rfl, Nat.le_of_ble_eq_true rfl⟩ (Nat.le_of_ble_eq_true rfl) dX2_saysAs_77) ?_
    exact J_iret (pc := 80) hX (hQ _) dX2_saysAs_80
  refine J_swc (5 : Int32) (fun h12 => ?_) (fun h12 => ?_)
  · refine J_swIn (pc := 1) hX (tgt := 81) (off := 80) (5 : Int32) h12 (by decide) (by decide) rfl (by decide) dX2_saysAs_1 ?_
    refine J_aload_n (pc := 81) hX 0 rfl dX2_saysAs_81 ?_
    refine J_aload_n (pc := 82) hX 0 rfl dX2_saysAs_82 ?_
    refine g_X2_25 (pc := 83) hX ht0 dX2_saysAs_83 ?_
    refine J_call1 (fun y13 e14 => ?_)
    refine jrun_i (pc := 86) (jRunV hX s_X2_105 (ci := 2) (T := TX2) (N := 19) (As := [jr (rfC t0 15)]) (rest := []) rfl (by decide) (C_X2_greatestOf Y hz0 t0 ht0 (rfC t0 15) (fs_2_15 t0 ht0) I0 L0 y13 e14) ht0 rfl rfl ⟨by decide, by decide⟩ ⟨Nat.le_of_ble_eq_true rfl, Nat.le_of_ble_eq_true rfl⟩ (Nat.le_of_ble_eq_true rfl) dX2_saysAs_86) ?_
    exact J_iret (pc := 89) hX (hQ _) dX2_saysAs_89
  refine J_swc (6 : Int32) (fun h15 => ?_) (fun h15 => ?_)
  · refine J_swIn (pc := 1) hX (tgt := 90) (off := 89) (6 : Int32) h15 (by decide) (by decide) rfl (by decide) dX2_saysAs_1 ?_
    refine J_aload_n (pc := 90) hX 0 rfl dX2_saysAs_90 ?_
    refine J_aload_n (pc := 91) hX 0 rfl dX2_saysAs_91 ?_
    refine g_X2_28 (pc := 92) hX ht0 dX2_saysAs_92 ?_
    refine J_call1 (fun y16 e17 => ?_)
    refine jrun_i (pc := 95) (jRunV hX s_X2_109 (ci := 2) (T := TX2) (N := 19) (As := [jr (rfC t0 16)]) (rest := []) rfl (by decide) (C_X2_leastOf Y hz0 t0 ht0 (rfC t0 16) (fs_2_16 t0 ht0) I0 L0 y16 e17) ht0 rfl rfl ⟨by decide, by decide⟩ ⟨Nat.le_of_ble_eq_true rfl, Nat.le_of_ble_eq_true rfl⟩ (Nat.le_of_ble_eq_true rfl) dX2_saysAs_95) ?_
    exact J_iret (pc := 98) hX (hQ _) dX2_saysAs_98
  refine J_swc (7 : Int32) (fun h18 => ?_) (fun h18 => ?_)
  · refine J_swIn (pc := 1) hX (tgt := 99) (off := 98) (7 : Int32) h18 (by decide) (by decide) rfl (by decide) dX2_saysAs_1 ?_
    refine J_aload_n (pc := 99) hX 0 rfl dX2_saysAs_99 ?_
    refine g_X2_68 (pc := 100) hX ht0 dX2_saysAs_100 ?_
    exact J_iret (pc := 103) hX (hQ _) dX2_saysAs_103
  refine J_swOut (pc := 1) hX (tgt := 104) (by decide) (jsw_2 (jsw_1 (b := 8) (7 : Int32) (jsw_1 (b := 7) (6 : Int32) (jsw_1 (b := 6) (5 : Int32) (jsw_1 (b := 5) (4 : Int32) (jsw_1 (b := 4) (3 : Int32) (jsw_1 (b := 3) (2 : Int32) (jsw_1 (b := 2) (1 : Int32) (jsw_1 (b := 1) (0 : Int32) jsw_0 h1 (by decide) (by decide)) h2 (by decide) (by decide)) h5 (by decide) (by decide)) h6 (by decide) (by decide)) h9 (by decide) (by decide)) h12 (by decide) (by decide)) h15 (by decide) (by decide)) h18 (by decide) (by decide)) (by decide)) dX2_saysAs_1 ?_
  refine J_aload_n (pc := 104) hX 0 rfl dX2_saysAs_104 ?_
  refine g_X2_47 (pc := 105) hX ht0 dX2_saysAs_105 ?_
  exact J_iret (pc := 108) hX (hQ _) dX2_saysAs_108
theorem C_X2_saysAs (Y : jY) (hz0 : Y.zf = false) (t0 : Nat) (ht0 : shC t0 = 3) (p0 : Int32) (I0 : jI) (L0 : jL) (r : Int32) (h : X2_saysAs t0 p0 I0 = some r) : jMet Y yX2_saysAs cX2_saysAs 2 (some .int) 3 124 0 0 [jr t0, ji p0] NC shC rfC I0 L0 (some (ji r)) NC shC rfC I0 L0 :=
  jmet_of _ _ h (fun Z r => jQ Y Z 0 0 (some (ji r)) NC shC rfC I0 L0) (fun _ => rfl) (by decide) (Nat.le_of_ble_eq_true rfl) (fun Z hX => W_X2_saysAs hz0 t0 ht0 p0 I0 L0 hX (fun _ => rfl))
def X2_dirtyOnes_F1 (t0 : Nat) (I0 : jI) (g3 : Int32 → Int32 → Option (Int32)) : Int32 → Int32 → Option (Int32) := fun (v1 : Int32) (v2 : Int32) =>
if (I0 t0 0) ≤ v2 then (
some v1)
else (
(X2_isDirty t0 v2 I0).bind (fun (y5 : Int32) =>
jlet (if y5 = 0 then (0 : Int32) else (1 : Int32)) (fun (y8 : Int32) =>
jlet ((v1 + y8)) (fun (y9 : Int32) =>
g3 y9 (v2 + (1 : Int32))))))
def X2_dirtyOnes (t0 : Nat) (I0 : jI) : Option (Int32) :=
jfx (X2_dirtyOnes_F1 t0 I0) (fun _ _ => none) 1000 (0 : Int32) (0 : Int32)
set_option maxRecDepth 20000 in
set_option maxHeartbeats 4000000 in
theorem W_X2_dirtyOnes {Y : jY} {Z : jZ} {Qf : Int32 → State → Prop} (hz0 : Y.zf = false) (t0 : Nat) (ht0 : shC t0 = 3) (I0 : jI) (L0 : jL) (hX : jOK Y Z RX2 cX2_dirtyOnes 3 "dirtyOnes" (some .int) 2 101 0 0) (hQ : ∀ r : Int32, Qf r = jQ Y Z 0 0 (some (ji r)) NC shC rfC I0 L0) : J Y Z 3 Qf (X2_dirtyOnes t0 I0) 0 [(0, jr t0)] [] 0 0 NC shC rfC I0 L0 := by
  unfold X2_dirtyOnes
  refine J_iconst (pc := 0) hX (v := (0 : Int32)) (by decide) dX2_dirtyOnes_0 ?_
  refine J_istore_n (pc := 1) hX (lo' := [(1, ji (0 : Int32)), (0, jr t0)]) (by decide) rfl dX2_dirtyOnes_1 ?_
  refine J_iconst (pc := 2) hX (v := (0 : Int32)) (by decide) dX2_dirtyOnes_2 ?_
  refine J_istore_n (pc := 3) hX (lo' := [(2, ji (0 : Int32)), (1, ji (0 : Int32)), (0, jr t0)]) (by decide) rfl dX2_dirtyOnes_3 ?_
  have lhg3 : ∀ mq : Nat, ∀ (v1 : Int32) (v2 : Int32), J Y Z 3 Qf (jfx (X2_dirtyOnes_F1 t0 I0) (fun _ _ => none) mq v1 v2) 4 [(0, jr t0), (1, ji v1), (2, ji v2)] [] 0 0 NC shC rfC I0 L0 := by
    intro mq
    refine jfx_J (fun (_ : Nat) (g3 : Int32 → Int32 → Option (Int32)) => ∀ (v1 : Int32) (v2 : Int32), J Y Z 3 Qf (g3 v1 v2) 4 [(0, jr t0), (1, ji v1), (2, ji v2)] [] 0 0 NC shC rfC I0 L0) ?_ (fun _ g3 hg3 => ?_) mq
    · intro v1 v2
      exact J_none
    intro v1 v2
    unfold X2_dirtyOnes_F1
    try dsimp only
    refine J_iload_n (pc := 4) hX 2 rfl dX2_dirtyOnes_4 ?_
    refine J_aload_n (pc := 5) hX 0 rfl dX2_dirtyOnes_5 ?_
    refine g_X2_37 (pc := 6) hX ht0 dX2_dirtyOnes_6 ?_
    refine J_icmp_ge (pc := 9) hX (tgt := 34) (by decide) dX2_dirtyOnes_9 (fun h4 => ?_) (fun h4 => ?_)
    · refine J_iload_n (pc := 34) hX 1 rfl dX2_dirtyOnes_34 ?_
      exact J_iret (pc := 35) hX (hQ _) dX2_dirtyOnes_35
    · refine J_iload_n (pc := 12) hX 1 rfl dX2_dirtyOnes_12 ?_
      refine J_aload_n (pc := 13) hX 0 rfl dX2_dirtyOnes_13 ?_
      refine J_iload_n (pc := 14) hX 2 rfl dX2_dirtyOnes_14 ?_
      refine J_call1 (fun y5 e6 => ?_)
      refine jrun_i (pc := 15) (jRunV hX s_X2_118 (ci := 2) (T := TX2) (N := 19) (As := [ji v2]) (rest := [ji v1]) rfl (by decide) (C_X2_isDirty Y hz0 t0 ht0 v2 I0 L0 y5 e6) ht0 rfl rfl ⟨by decide, by decide⟩ ⟨Nat.le_of_ble_eq_true rfl, Nat.le_of_ble_eq_true rfl⟩ (Nat.le_of_ble_eq_true rfl) dX2_dirtyOnes_15) ?_
      refine J_vjoin (fun kq (y8 : Int32) => J Y Z 3 Qf (kq) 26 [(0, jr t0), (1, ji v1), (2, ji v2)] [ji y8, ji v1] 0 0 NC shC rfC I0 L0) (fun y8 => ?_) (fun hj => ?_)
      · try dsimp only
        refine J_iadd (pc := 26) hX dX2_dirtyOnes_26 ?_
        refine J_leti (fun y9 => ?_)
        refine J_istore_n (pc := 27) hX (lo' := [(1, ji y9), (0, jr t0), (2, ji v2)]) (by decide) rfl dX2_dirtyOnes_27 ?_
        refine J_iinc (pc := 28) hX (v := (v2 + (1 : Int32))) (lo' := [(2, ji (v2 + (1 : Int32))), (1, ji y9), (0, jr t0)]) 2 rfl (by rfl) (by decide) rfl dX2_dirtyOnes_28 ?_
        refine J_goto (pc := 31) hX (tgt := 4) (by decide) dX2_dirtyOnes_31 ?_
        refine J_sub [2, 1, 0] rfl ?_
        exact hg3 y9 (v2 + (1 : Int32))
      try dsimp only at hj
      refine J_if_eqV (pc := 18) hX (tgt := 25) (by decide) dX2_dirtyOnes_18 (fun h7 => ?_) (fun h7 => ?_)
      · refine J_iconst (pc := 25) hX (v := (0 : Int32)) (by decide) dX2_dirtyOnes_25 ?_
        exact hj _
      · refine J_iconst (pc := 21) hX (v := (1 : Int32)) (by decide) dX2_dirtyOnes_21 ?_
        refine J_goto (pc := 22) hX (tgt := 26) (by decide) dX2_dirtyOnes_22 ?_
        exact hj _
  refine J_sub [2, 1, 0] rfl ?_
  exact lhg3 1000 (0 : Int32) (0 : Int32)
theorem C_X2_dirtyOnes (Y : jY) (hz0 : Y.zf = false) (t0 : Nat) (ht0 : shC t0 = 3) (I0 : jI) (L0 : jL) (r : Int32) (h : X2_dirtyOnes t0 I0 = some r) : jMet Y yX2_dirtyOnes cX2_dirtyOnes 3 (some .int) 2 101 0 0 [jr t0] NC shC rfC I0 L0 (some (ji r)) NC shC rfC I0 L0 :=
  jmet_of _ _ h (fun Z r => jQ Y Z 0 0 (some (ji r)) NC shC rfC I0 L0) (fun _ => rfl) (by decide) (Nat.le_of_ble_eq_true rfl) (fun Z hX => W_X2_dirtyOnes hz0 t0 ht0 I0 L0 hX (fun _ => rfl))
def X2_tells (t0 : Nat) (p0 : Int32) (I0 : jI) : Option (Int32) :=
if p0 = (0 : Int32) then (
some (I0 t0 0))
else if p0 = (1 : Int32) then (
some (I0 t0 1))
else if p0 = (2 : Int32) then (
some (I0 t0 2))
else if p0 = (3 : Int32) then (
some (I0 t0 10))
else if p0 = (4 : Int32) then (
(X2_dirtyOnes t0 I0).bind (fun (y6 : Int32) =>
some y6))
else if p0 = (5 : Int32) then (
some (I0 t0 5))
else if p0 = (6 : Int32) then (
some (I0 t0 6))
else if p0 = (7 : Int32) then (
some (I0 t0 7))
else if p0 = (8 : Int32) then (
some (I0 t0 8))
else (
some (I0 t0 9))
set_option maxRecDepth 20000 in
set_option maxHeartbeats 4000000 in
theorem W_X2_tells {Y : jY} {Z : jZ} {Qf : Int32 → State → Prop} (hz0 : Y.zf = false) (t0 : Nat) (ht0 : shC t0 = 3) (p0 : Int32) (I0 : jI) (L0 : jL) (hX : jOK Y Z RX2 cX2_tells 2 "tells" (some .int) 3 123 0 0) (hQ : ∀ r : Int32, Qf r = jQ Y Z 0 0 (some (ji r)) NC shC rfC I0 L0) : J Y Z 2 Qf (X2_tells t0 p0 I0) 0 [(0, jr t0), (1, ji p0)] [] 0 0 NC shC rfC I0 L0 := by
  unfold X2_tells
  refine J_iload_n (pc := 0) hX 1 rfl dX2_tells_0 ?_
  refine J_swc (0 : Int32) (fun h1 => ?_) (fun h1 => ?_)
  · refine J_swIn (pc := 1) hX (tgt := 52) (off := 51) (0 : Int32) h1 (by decide) (by decide) rfl (by decide) dX2_tells_1 ?_
    refine J_aload_n (pc := 52) hX 0 rfl dX2_tells_52 ?_
    refine g_X2_37 (pc := 53) hX ht0 dX2_tells_53 ?_
    exact J_iret (pc := 56) hX (hQ _) dX2_tells_56
  refine J_swc (1 : Int32) (fun h2 => ?_) (fun h2 => ?_)
  · refine J_swIn (pc := 1) hX (tgt := 57) (off := 56) (1 : Int32) h2 (by decide) (by decide) rfl (by decide) dX2_tells_1 ?_
    refine J_aload_n (pc := 57) hX 0 rfl dX2_tells_57 ?_
    refine g_X2_41 (pc := 58) hX ht0 dX2_tells_58 ?_
    exact J_iret (pc := 61) hX (hQ _) dX2_tells_61
  refine J_swc (2 : Int32) (fun h3 => ?_) (fun h3 => ?_)
  · refine J_swIn (pc := 1) hX (tgt := 62) (off := 61) (2 : Int32) h3 (by decide) (by decide) rfl (by decide) dX2_tells_1 ?_
    refine J_aload_n (pc := 62) hX 0 rfl dX2_tells_62 ?_
    refine g_X2_44 (pc := 63) hX ht0 dX2_tells_63 ?_
    exact J_iret (pc := 66) hX (hQ _) dX2_tells_66
  refine J_swc (3 : Int32) (fun h4 => ?_) (fun h4 => ?_)
  · refine J_swIn (pc := 1) hX (tgt := 67) (off := 66) (3 : Int32) h4 (by decide) (by decide) rfl (by decide) dX2_tells_1 ?_
    refine J_aload_n (pc := 67) hX 0 rfl dX2_tells_67 ?_
    refine g_X2_71 (pc := 68) hX ht0 dX2_tells_68 ?_
    exact J_iret (pc := 71) hX (hQ _) dX2_tells_71
  refine J_swc (4 : Int32) (fun h5 => ?_) (fun h5 => ?_)
  · refine J_swIn (pc := 1) hX (tgt := 72) (off := 71) (4 : Int32) h5 (by decide) (by decide) rfl (by decide) dX2_tells_1 ?_
    refine J_aload_n (pc := 72) hX 0 rfl dX2_tells_72 ?_
    refine J_call1 (fun y6 e7 => ?_)
    refine jrun_i (pc := 73) (jRunV hX s_X2_121 (ci := 2) (T := TX2) (N := 19) (As := []) (rest := []) rfl (by decide) (C_X2_dirtyOnes Y hz0 t0 ht0 I0 L0 y6 e7) ht0 rfl rfl ⟨by decide, by decide⟩ ⟨Nat.le_of_ble_eq_true rfl, Nat.le_of_ble_eq_true rfl⟩ (Nat.le_of_ble_eq_true rfl) dX2_tells_73) ?_
    exact J_iret (pc := 76) hX (hQ _) dX2_tells_76
  refine J_swc (5 : Int32) (fun h8 => ?_) (fun h8 => ?_)
  · refine J_swIn (pc := 1) hX (tgt := 77) (off := 76) (5 : Int32) h8 (by decide) (by decide) rfl (by decide) dX2_tells_1 ?_
    refine J_aload_n (pc := 77) hX 0 rfl dX2_tells_77 ?_
    refine g_X2_50 (pc := 78) hX ht0 dX2_tells_78 ?_
    exact J_iret (pc := 81) hX (hQ _) dX2_tells_81
  refine J_swc (6 : Int32) (fun h9 => ?_) (fun h9 => ?_)
  · refine J_swIn (pc := 1) hX (tgt := 82) (off := 81) (6 : Int32) h9 (by decide) (by decide) rfl (by decide) dX2_tells_1 ?_
    refine J_aload_n (pc := 82) hX 0 rfl dX2_tells_82 ?_
    refine g_X2_53 (pc := 83) hX ht0 dX2_tells_83 ?_
    exact J_iret (pc := 86) hX (hQ _) dX2_tells_86
  refine J_swc (7 : Int32) (fun h10 => ?_) (fun h10 => ?_)
  · refine J_swIn (pc := 1) hX (tgt := 87) (off := 86) (7 : Int32) h10 (by decide) (by decide) rfl (by decide) dX2_tells_1 ?_
    refine J_aload_n (pc := 87) hX 0 rfl dX2_tells_87 ?_
    refine g_X2_56 (pc := 88) hX ht0 dX2_tells_88 ?_
    exact J_iret (pc := 91) hX (hQ _) dX2_tells_91
  refine J_swc (8 : Int32) (fun h11 => ?_) (fun h11 => ?_)
  · refine J_swIn (pc := 1) hX (tgt := 92) (off := 91) (8 : Int32) h11 (by decide) (by decide) rfl (by decide) dX2_tells_1 ?_
    refine J_aload_n (pc := 92) hX 0 rfl dX2_tells_92 ?_
    refine g_X2_59 (pc := 93) hX ht0 dX2_tells_93 ?_
    exact J_iret (pc := 96) hX (hQ _) dX2_tells_96
  refine J_swOut (pc := 1) hX (tgt := 97) (by decide) (jsw_2 (jsw_1 (b := 9) (8 : Int32) (jsw_1 (b := 8) (7 : Int32) (jsw_1 (b := 7) (6 : Int32) (jsw_1 (b := 6) (5 : Int32) (jsw_1 (b := 5) (4 : Int32) (jsw_1 (b := 4) (3 : Int32) (jsw_1 (b := 3) (2 : Int32) (jsw_1 (b := 2) (1 : Int32) (jsw_1 (b := 1) (0 : Int32) jsw_0 h1 (by decide) (by decide)) h2 (by decide) (by decide)) h3 (by decide) (by decide)) h4 (by decide) (by decide)) h5 (by decide) (by decide)) h8 (by decide) (by decide)) h9 (by decide) (by decide)) h10 (by decide) (by decide)) h11 (by decide) (by decide)) (by decide)) dX2_tells_1 ?_
  refine J_aload_n (pc := 97) hX 0 rfl dX2_tells_97 ?_
  refine g_X2_62 (pc := 98) hX ht0 dX2_tells_98 ?_
  exact J_iret (pc := 101) hX (hQ _) dX2_tells_101
theorem C_X2_tells (Y : jY) (hz0 : Y.zf = false) (t0 : Nat) (ht0 : shC t0 = 3) (p0 : Int32) (I0 : jI) (L0 : jL) (r : Int32) (h : X2_tells t0 p0 I0 = some r) : jMet Y yX2_tells cX2_tells 2 (some .int) 3 123 0 0 [jr t0, ji p0] NC shC rfC I0 L0 (some (ji r)) NC shC rfC I0 L0 :=
  jmet_of _ _ h (fun Z r => jQ Y Z 0 0 (some (ji r)) NC shC rfC I0 L0) (fun _ => rfl) (by decide) (Nat.le_of_ble_eq_true rfl) (fun Z hX => W_X2_tells hz0 t0 ht0 p0 I0 L0 hX (fun _ => rfl))
def X2_tellsSlot (t0 : Nat) (p0 : Int32) (p1 : Int32) (I0 : jI) : Option (Int32) :=
(X2_isSlot p0).bind (fun (y1 : Int32) =>
if y1 = 0 then (
some (-1 : Int32))
else (
(X2_pageIn t0 p0 I0).bind (fun (y4 : Int32) =>
if y4 = (-1 : Int32) then (
some (-1 : Int32))
else (
if p1 = (0 : Int32) then (
if jin p0 16 then (
some (I0 (rfC t0 11) (p0).toNatClampNeg)) else none)
else if p1 = (1 : Int32) then (
if jin p0 16 then (
if (I0 (rfC t0 13) (p0).toNatClampNeg) = 0 then (
some (0 : Int32))
else (
some (1 : Int32))) else none)
else if p1 = (2 : Int32) then (
if jin p0 16 then (
some (I0 (rfC t0 14) (p0).toNatClampNeg)) else none)
else if p1 = (3 : Int32) then (
if jin p0 16 then (
some (I0 (rfC t0 15) (p0).toNatClampNeg)) else none)
else if p1 = (4 : Int32) then (
if jin p0 16 then (
some (I0 (rfC t0 16) (p0).toNatClampNeg)) else none)
else (
if jin p0 16 then (
if (I0 (rfC t0 17) (p0).toNatClampNeg) = 0 then (
some (0 : Int32))
else (
some (1 : Int32))) else none)))))
set_option maxRecDepth 20000 in
set_option maxHeartbeats 4000000 in
theorem W_X2_tellsSlot {Y : jY} {Z : jZ} {Qf : Int32 → State → Prop} (hz0 : Y.zf = false) (t0 : Nat) (ht0 : shC t0 = 3) (p0 : Int32) (p1 : Int32) (I0 : jI) (L0 : jL) (hX : jOK Y Z RX2 cX2_tellsSlot 3 "tellsSlot" (some .int) 2 101 0 0) (hQ : ∀ r : Int32, Qf r = jQ Y Z 0 0 (some (ji r)) NC shC rfC I0 L0) : J Y Z 3 Qf (X2_tellsSlot t0 p0 p1 I0) 0 [(0, jr t0), (1, ji p0), (2, ji p1)] [] 0 0 NC shC rfC I0 L0 := by
  unfold X2_tellsSlot
  refine J_iload_n (pc := 0) hX 1 rfl dX2_tellsSlot_0 ?_
  refine J_call1 (fun y1 e2 => ?_)
  refine jrun_i (pc := 1) (jRunS hX s_X2_80 (As := [ji p0]) (rest := []) (C_X2_isSlot Y hz0 p0 I0 L0 y1 e2) rfl rfl ⟨by decide, by decide⟩ ⟨Nat.le_of_ble_eq_true rfl, Nat.le_of_ble_eq_true rfl⟩ (Nat.le_of_ble_eq_true rfl) dX2_tellsSlot_1) ?_
  refine J_if_eq (pc := 4) hX (tgt := 16) (by decide) dX2_tellsSlot_4 (fun h3 => ?_) (fun h3 => ?_)
  · refine J_iconst (pc := 16) hX (v := (-1 : Int32)) (by decide) dX2_tellsSlot_16 ?_
    exact J_iret (pc := 17) hX (hQ _) dX2_tellsSlot_17
  · refine J_aload_n (pc := 7) hX 0 rfl dX2_tellsSlot_7 ?_
    refine J_iload_n (pc := 8) hX 1 rfl dX2_tellsSlot_8 ?_
    refine J_call1 (fun y4 e5 => ?_)
    refine jrun_i (pc := 9) (jRunV hX s_X2_90 (ci := 2) (T := TX2) (N := 19) (As := [ji p0]) (rest := []) rfl (by decide) (C_X2_pageIn Y hz0 t0 ht0 p0 I0 L0 y4 e5) ht0 rfl rfl ⟨by decide, by decide⟩ ⟨Nat.le_of_ble_eq_true rfl, Nat.le_of_ble_eq_true rfl⟩ (Nat.le_of_ble_eq_true rfl) dX2_tellsSlot_9) ?_
    refine J_iconst (pc := 12) hX (v := (-1 : Int32)) (by decide) dX2_tellsSlot_12 ?_
    refine J_icmp_ne (pc := 13) hX (tgt := 18) (by decide) dX2_tellsSlot_13 (fun h6 => ?_) (fun h6 => ?_)
    · refine J_iload_n (pc := 18) hX 2 rfl dX2_tellsSlot_18 ?_
      refine J_swc (0 : Int32) (fun h7 => ?_) (fun h7 => ?_)
      · refine J_swIn (pc := 19) hX (tgt := 52) (off := 33) (0 : Int32) h7 (by decide) (by decide) rfl (by decide) dX2_tellsSlot_19 ?_
        refine J_aload_n (pc := 52) hX 0 rfl dX2_tellsSlot_52 ?_
        refine g_X2_9 (pc := 53) hX ht0 dX2_tellsSlot_53 ?_
        refine J_iload_n (pc := 56) hX 1 rfl dX2_tellsSlot_56 ?_
        refine J_iald (pc := 57) hX (N := 16) (fs_2_11 t0 ht0) (by decide) dX2_tellsSlot_57 (fun h8 => ?_)
        exact J_iret (pc := 58) hX (hQ _) dX2_tellsSlot_58
      refine J_swc (1 : Int32) (fun h9 => ?_) (fun h9 => ?_)
      · refine J_swIn (pc := 19) hX (tgt := 59) (off := 40) (1 : Int32) h9 (by decide) (by decide) rfl (by decide) dX2_tellsSlot_19 ?_
        refine J_aload_n (pc := 59) hX 0 rfl dX2_tellsSlot_59 ?_
        refine g_X2_18 (pc := 60) hX ht0 dX2_tellsSlot_60 ?_
        refine J_iload_n (pc := 63) hX 1 rfl dX2_tellsSlot_63 ?_
        refine J_zald (pc := 64) hX (N := 16) (fs_2_13 t0 ht0) (by decide) dX2_tellsSlot_64 (fun h10 => ?_)
        refine J_if_eq (pc := 65) hX (tgt := 72) (by decide) dX2_tellsSlot_65 (fun h11 => ?_) (fun h11 => ?_)
        · refine J_iconst (pc := 72) hX (v := (0 : Int32)) (by decide) dX2_tellsSlot_72 ?_
          exact J_iret (pc := 73) hX (hQ _) dX2_tellsSlot_73
        · refine J_iconst (pc := 68) hX (v := (1 : Int32)) (by decide) dX2_tellsSlot_68 ?_
          refine J_goto (pc := 69) hX (tgt := 73) (by decide) dX2_tellsSlot_69 ?_
          exact J_iret (pc := 73) hX (hQ _) dX2_tellsSlot_73
      refine J_swc (2 : Int32) (fun h12 => ?_) (fun h12 => ?_)
      · refine J_swIn (pc := 19) hX (tgt := 74) (off := 55) (2 : Int32) h12 (by decide) (by decide) rfl (by decide) dX2_tellsSlot_19 ?_
        refine J_aload_n (pc := 74) hX 0 rfl dX2_tellsSlot_74 ?_
        refine g_X2_22 (pc := 75) hX ht0 dX2_tellsSlot_75 ?_
        refine J_iload_n (pc := 78) hX 1 rfl dX2_tellsSlot_78 ?_
        refine J_iald (pc := 79) hX (N := 16) (fs_2_14 t0 ht0) (by decide) dX2_tellsSlot_79 (fun h13 => ?_)
        exact J_iret (pc := 80) hX (hQ _) dX2_tellsSlot_80
      refine J_swc (3 : Int32) (fun h14 => ?_) (fun h14 => ?_)
      · refine J_swIn (pc := 19) hX (tgt := 81) (off := 62) (3 : Int32) h14 (by decide) (by decide) rfl (by decide) dX2_tellsSlot_19 ?_
        refine J_aload_n (pc := 81) hX 0 rfl dX2_tellsSlot_81 ?_
        refine g_X2_25 (pc := 82) hX ht0 dX2_tellsSlot_82 ?_
        refine J_iload_n (pc := 85) hX 1 rfl dX2_tellsSlot_85 ?_
        refine J_iald (pc := 86) hX (N := 16) (fs_2_15 t0 ht0) (by decide) dX2_tellsSlot_86 (fun h15 => ?_)
        exact J_iret (pc := 87) hX (hQ _) dX2_tellsSlot_87
      refine J_swc (4 : Int32) (fun h16 => ?_) (fun h16 => ?_)
      · refine J_swIn (pc := 19) hX (tgt := 88) (off := 69) (4 : Int32) h16 (by decide) (by decide) rfl (by decide) dX2_tellsSlot_19 ?_
        refine J_aload_n (pc := 88) hX 0 rfl dX2_tellsSlot_88 ?_
        refine g_X2_28 (pc := 89) hX ht0 dX2_tellsSlot_89 ?_
        refine J_iload_n (pc := 92) hX 1 rfl dX2_tellsSlot_92 ?_
        refine J_iald (pc := 93) hX (N := 16) (fs_2_16 t0 ht0) (by decide) dX2_tellsSlot_93 (fun h17 => ?_)
        exact J_iret (pc := 94) hX (hQ _) dX2_tellsSlot_94
      refine J_swOut (pc := 19) hX (tgt := 95) (by decide) (jsw_2 (jsw_1 (b := 5) (4 : Int32) (jsw_1 (b := 4) (3 : Int32) (jsw_1 (b := 3) (2 : Int32) (jsw_1 (b := 2) (1 : Int32) (jsw_1 (b := 1) (0 : Int32) jsw_0 h7 (by decide) (by decide)) h9 (by decide) (by decide)) h12 (by decide) (by decide)) h14 (by decide) (by decide)) h16 (by decide) (by decide)) (by decide)) dX2_tellsSlot_19 ?_
      refine J_aload_n (pc := 95) hX 0 rfl dX2_tellsSlot_95 ?_
      refine g_X2_31 (pc := 96) hX ht0 dX2_tellsSlot_96 ?_
      refine J_iload_n (pc := 99) hX 1 rfl dX2_tellsSlot_99 ?_
      refine J_zald (pc := 100) hX (N := 16) (fs_2_17 t0 ht0) (by decide) dX2_tellsSlot_100 (fun h18 => ?_)
      refine J_if_eq (pc := 101) hX (tgt := 108) (by decide) dX2_tellsSlot_101 (fun h19 => ?_) (fun h19 => ?_)
      · refine J_iconst (pc := 108) hX (v := (0 : Int32)) (by decide) dX2_tellsSlot_108 ?_
        exact J_iret (pc := 109) hX (hQ _) dX2_tellsSlot_109
      · refine J_iconst (pc := 104) hX (v := (1 : Int32)) (by decide) dX2_tellsSlot_104 ?_
        refine J_goto (pc := 105) hX (tgt := 109) (by decide) dX2_tellsSlot_105 ?_
        exact J_iret (pc := 109) hX (hQ _) dX2_tellsSlot_109
    · refine J_iconst (pc := 16) hX (v := (-1 : Int32)) (by decide) dX2_tellsSlot_16 ?_
      exact J_iret (pc := 17) hX (hQ _) dX2_tellsSlot_17
theorem C_X2_tellsSlot (Y : jY) (hz0 : Y.zf = false) (t0 : Nat) (ht0 : shC t0 = 3) (p0 : Int32) (p1 : Int32) (I0 : jI) (L0 : jL) (r : Int32) (h : X2_tellsSlot t0 p0 p1 I0 = some r) : jMet Y yX2_tellsSlot cX2_tellsSlot 3 (some .int) 2 101 0 0 [jr t0, ji p0, ji p1] NC shC rfC I0 L0 (some (ji r)) NC shC rfC I0 L0 :=
  jmet_of _ _ h (fun Z r => jQ Y Z 0 0 (some (ji r)) NC shC rfC I0 L0) (fun _ => rfl) (by decide) (Nat.le_of_ble_eq_true rfl) (fun Z hX => W_X2_tellsSlot hz0 t0 ht0 p0 p1 I0 L0 hX (fun _ => rfl))
def X3_isRow (t0 : Nat) (I0 : jI) : Option (Int32) :=
if (I0 t0 0) = (-1 : Int32) then (
some (0 : Int32))
else (
some (1 : Int32))
set_option maxRecDepth 20000 in
set_option maxHeartbeats 4000000 in
theorem W_X3_isRow {Y : jY} {Z : jZ} {Qf : Int32 → State → Prop} (hz0 : Y.zf = false) (t0 : Nat) (ht0 : shC t0 = 4) (I0 : jI) (L0 : jL) (hX : jOK Y Z RX3 cX3_isRow 1 "isRow" (some .boolean) 1 80 0 0) (hQ : ∀ r : Int32, Qf r = jQ Y Z 0 0 (some (ji r)) NC shC rfC I0 L0) : J Y Z 1 Qf (X3_isRow t0 I0) 0 [(0, jr t0)] [] 0 0 NC shC rfC I0 L0 := by
  unfold X3_isRow
  refine J_aload_n (pc := 0) hX 0 rfl dX3_isRow_0 ?_
  refine g_X3_9 (pc := 1) hX ht0 dX3_isRow_1 ?_
  refine J_iconst (pc := 4) hX (v := (-1 : Int32)) (by decide) dX3_isRow_4 ?_
  refine J_icmp_eq (pc := 5) hX (tgt := 12) (by decide) dX3_isRow_5 (fun h1 => ?_) (fun h1 => ?_)
  · refine J_iconst (pc := 12) hX (v := (0 : Int32)) (by decide) dX3_isRow_12 ?_
    exact J_zret (pc := 13) hX (by decide) (hQ _) dX3_isRow_13
  · refine J_iconst (pc := 8) hX (v := (1 : Int32)) (by decide) dX3_isRow_8 ?_
    refine J_goto (pc := 9) hX (tgt := 13) (by decide) dX3_isRow_9 ?_
    exact J_zret (pc := 13) hX (by decide) (hQ _) dX3_isRow_13
theorem C_X3_isRow (Y : jY) (hz0 : Y.zf = false) (t0 : Nat) (ht0 : shC t0 = 4) (I0 : jI) (L0 : jL) (r : Int32) (h : X3_isRow t0 I0 = some r) : jMet Y yX3_isRow cX3_isRow 1 (some .boolean) 1 80 0 0 [jr t0] NC shC rfC I0 L0 (some (ji r)) NC shC rfC I0 L0 :=
  jmet_of _ _ h (fun Z r => jQ Y Z 0 0 (some (ji r)) NC shC rfC I0 L0) (fun _ => rfl) (by decide) (Nat.le_of_ble_eq_true rfl) (fun Z hX => W_X3_isRow hz0 t0 ht0 I0 L0 hX (fun _ => rfl))
def X3_isRule (t0 : Nat) (I0 : jI) : Option (Int32) :=
if (I0 t0 1) = (-1 : Int32) then (
some (0 : Int32))
else (
some (1 : Int32))
set_option maxRecDepth 20000 in
set_option maxHeartbeats 4000000 in
theorem W_X3_isRule {Y : jY} {Z : jZ} {Qf : Int32 → State → Prop} (hz0 : Y.zf = false) (t0 : Nat) (ht0 : shC t0 = 4) (I0 : jI) (L0 : jL) (hX : jOK Y Z RX3 cX3_isRule 1 "isRule" (some .boolean) 1 80 0 0) (hQ : ∀ r : Int32, Qf r = jQ Y Z 0 0 (some (ji r)) NC shC rfC I0 L0) : J Y Z 1 Qf (X3_isRule t0 I0) 0 [(0, jr t0)] [] 0 0 NC shC rfC I0 L0 := by
  unfold X3_isRule
  refine J_aload_n (pc := 0) hX 0 rfl dX3_isRule_0 ?_
  refine g_X3_15 (pc := 1) hX ht0 dX3_isRule_1 ?_
  refine J_iconst (pc := 4) hX (v := (-1 : Int32)) (by decide) dX3_isRule_4 ?_
  refine J_icmp_eq (pc := 5) hX (tgt := 12) (by decide) dX3_isRule_5 (fun h1 => ?_) (fun h1 => ?_)
  · refine J_iconst (pc := 12) hX (v := (0 : Int32)) (by decide) dX3_isRule_12 ?_
    exact J_zret (pc := 13) hX (by decide) (hQ _) dX3_isRule_13
  · refine J_iconst (pc := 8) hX (v := (1 : Int32)) (by decide) dX3_isRule_8 ?_
    refine J_goto (pc := 9) hX (tgt := 13) (by decide) dX3_isRule_9 ?_
    exact J_zret (pc := 13) hX (by decide) (hQ _) dX3_isRule_13
theorem C_X3_isRule (Y : jY) (hz0 : Y.zf = false) (t0 : Nat) (ht0 : shC t0 = 4) (I0 : jI) (L0 : jL) (r : Int32) (h : X3_isRule t0 I0 = some r) : jMet Y yX3_isRule cX3_isRule 1 (some .boolean) 1 80 0 0 [jr t0] NC shC rfC I0 L0 (some (ji r)) NC shC rfC I0 L0 :=
  jmet_of _ _ h (fun Z r => jQ Y Z 0 0 (some (ji r)) NC shC rfC I0 L0) (fun _ => rfl) (by decide) (Nat.le_of_ble_eq_true rfl) (fun Z hX => W_X3_isRule hz0 t0 ht0 I0 L0 hX (fun _ => rfl))
def X3_holdNothing (t0 : Nat) (I0 : jI) : Option (jI) :=
jlet (jup I0 t0 0 (-1 : Int32)) (fun (I1 : jI) =>
jlet (jup I1 t0 1 (-1 : Int32)) (fun (I2 : jI) =>
jlet (jup I2 t0 2 (0 : Int32)) (fun (I3 : jI) =>
some I3)))
set_option maxRecDepth 20000 in
set_option maxHeartbeats 4000000 in
theorem W_X3_holdNothing {Y : jY} {Z : jZ} {Qf : jI → State → Prop} (hz0 : Y.zf = false) (t0 : Nat) (ht0 : shC t0 = 4) (I0 : jI) (L0 : jL) (hX : jOK Y Z RX3 cX3_holdNothing 1 "holdNothing" none 1 80 0 0) (hQ : ∀ r : jI, Qf r = jQ Y Z 0 0 none NC shC rfC r L0) : J Y Z 1 Qf (X3_holdNothing t0 I0) 0 [(0, jr t0)] [] 0 0 NC shC rfC I0 L0 := by
  unfold X3_holdNothing
  refine J_aload_n (pc := 0) hX 0 rfl dX3_holdNothing_0 ?_
  refine J_iconst (pc := 1) hX (v := (-1 : Int32)) (by decide) dX3_holdNothing_1 ?_
  refine p_X3_9 (pc := 2) hX ht0 dX3_holdNothing_2 (fun I1 => ?_)
  refine J_aload_n (pc := 5) hX 0 rfl dX3_holdNothing_5 ?_
  refine J_iconst (pc := 6) hX (v := (-1 : Int32)) (by decide) dX3_holdNothing_6 ?_
  refine p_X3_15 (pc := 7) hX ht0 dX3_holdNothing_7 (fun I2 => ?_)
  refine J_aload_n (pc := 10) hX 0 rfl dX3_holdNothing_10 ?_
  refine J_iconst (pc := 11) hX (v := (0 : Int32)) (by decide) dX3_holdNothing_11 ?_
  refine p_X3_22 (pc := 12) hX ht0 dX3_holdNothing_12 (fun I3 => ?_)
  exact J_vret (pc := 15) hX (hQ _) dX3_holdNothing_15
theorem C_X3_holdNothing (Y : jY) (hz0 : Y.zf = false) (t0 : Nat) (ht0 : shC t0 = 4) (I0 : jI) (L0 : jL) (I1 : jI) (h : X3_holdNothing t0 I0 = some I1) : jMet Y yX3_holdNothing cX3_holdNothing 1 none 1 80 0 0 [jr t0] NC shC rfC I0 L0 none NC shC rfC I1 L0 :=
  jmet_of _ _ h (fun Z r => jQ Y Z 0 0 none NC shC rfC r L0) (fun _ => rfl) (by decide) (Nat.le_of_ble_eq_true rfl) (fun Z hX => W_X3_holdNothing hz0 t0 ht0 I0 L0 hX (fun _ => rfl))
def X3_holdRule (t0 : Nat) (p0 : Int32) (I0 : jI) : Option (jI) :=
(X3_holdNothing t0 I0).bind (fun (I1 : jI) =>
jlet (jup I1 t0 1 p0) (fun (I3 : jI) =>
some I3))
set_option maxRecDepth 20000 in
set_option maxHeartbeats 4000000 in
theorem W_X3_holdRule {Y : jY} {Z : jZ} {Qf : jI → State → Prop} (hz0 : Y.zf = false) (t0 : Nat) (ht0 : shC t0 = 4) (p0 : Int32) (I0 : jI) (L0 : jL) (hX : jOK Y Z RX3 cX3_holdRule 2 "holdRule" none 2 100 0 0) (hQ : ∀ r : jI, Qf r = jQ Y Z 0 0 none NC shC rfC r L0) : J Y Z 2 Qf (X3_holdRule t0 p0 I0) 0 [(0, jr t0), (1, ji p0)] [] 0 0 NC shC rfC I0 L0 := by
  unfold X3_holdRule
  refine J_aload_n (pc := 0) hX 0 rfl dX3_holdRule_0 ?_
  refine J_call1 (fun I1 e2 => ?_)
  refine jrun_v (pc := 1) (jRunV hX s_X3_25 (ci := 3) (T := TX3) (N := 4) (As := []) (rest := []) rfl (by decide) (C_X3_holdNothing Y hz0 t0 ht0 I0 L0 I1 e2) ht0 rfl rfl ⟨by decide, by decide⟩ ⟨Nat.le_of_ble_eq_true rfl, Nat.le_of_ble_eq_true rfl⟩ (Nat.le_of_ble_eq_true rfl) dX3_holdRule_1) ?_
  refine J_aload_n (pc := 4) hX 0 rfl dX3_holdRule_4 ?_
  refine J_iload_n (pc := 5) hX 1 rfl dX3_holdRule_5 ?_
  refine p_X3_15 (pc := 6) hX ht0 dX3_holdRule_6 (fun I3 => ?_)
  exact J_vret (pc := 9) hX (hQ _) dX3_holdRule_9
theorem C_X3_holdRule (Y : jY) (hz0 : Y.zf = false) (t0 : Nat) (ht0 : shC t0 = 4) (p0 : Int32) (I0 : jI) (L0 : jL) (I1 : jI) (h : X3_holdRule t0 p0 I0 = some I1) : jMet Y yX3_holdRule cX3_holdRule 2 none 2 100 0 0 [jr t0, ji p0] NC shC rfC I0 L0 none NC shC rfC I1 L0 :=
  jmet_of _ _ h (fun Z r => jQ Y Z 0 0 none NC shC rfC r L0) (fun _ => rfl) (by decide) (Nat.le_of_ble_eq_true rfl) (fun Z hX => W_X3_holdRule hz0 t0 ht0 p0 I0 L0 hX (fun _ => rfl))
def X3_holdRow_F1 (t0 : Nat) (I4 : jI) (g7 : Int32 → jL → Option (jI × jL)) : Int32 → jL → Option (jI × jL) := fun (v5 : Int32) (L6 : jL) =>
if (40 : Int32) ≤ v5 then (
some (I4, L6))
else (
if jin v5 40 then jlet (jup L6 (rfC t0 3) (v5).toNatClampNeg (0 : Int64)) (fun (L10 : jL) =>
g7 (v5 + (1 : Int32)) L10) else none)
def X3_holdRow (t0 : Nat) (p0 : Int32) (p1 : Int32) (I0 : jI) (L0 : jL) : Option (jI × jL) :=
(X3_holdNothing t0 I0).bind (fun (I1 : jI) =>
jlet (jup I1 t0 0 p0) (fun (I3 : jI) =>
jlet (jup I3 t0 2 p1) (fun (I4 : jI) =>
jfx (X3_holdRow_F1 t0 I4) (fun _ _ => none) 1000 (0 : Int32) L0)))
set_option maxRecDepth 20000 in
set_option maxHeartbeats 4000000 in
theorem W_X3_holdRow {Y : jY} {Z : jZ} {Qf : jI × jL → State → Prop} (hz0 : Y.zf = false) (t0 : Nat) (ht0 : shC t0 = 4) (p0 : Int32) (p1 : Int32) (I0 : jI) (L0 : jL) (hX : jOK Y Z RX3 cX3_holdRow 4 "holdRow" none 2 100 0 0) (hQ : ∀ r : jI × jL, Qf r = jQ Y Z 0 0 none NC shC rfC r.1 r.2) : J Y Z 4 Qf (X3_holdRow t0 p0 p1 I0 L0) 0 [(0, jr t0), (1, ji p0), (2, ji p1)] [] 0 0 NC shC rfC I0 L0 := by
  unfold X3_holdRow
  refine J_aload_n (pc := 0) hX 0 rfl dX3_holdRow_0 ?_
  refine J_call1 (fun I1 e2 => ?_)
  refine jrun_v (pc := 1) (jRunV hX s_X3_25 (ci := 3) (T := TX3) (N := 4) (As := []) (rest := []) rfl (by decide) (C_X3_holdNothing Y hz0 t0 ht0 I0 L0 I1 e2) ht0 rfl rfl ⟨by decide, by decide⟩ ⟨Nat.le_of_ble_eq_true rfl, Nat.le_of_ble_eq_true rfl⟩ (Nat.le_of_ble_eq_true rfl) dX3_holdRow_1) ?_
  refine J_aload_n (pc := 4) hX 0 rfl dX3_holdRow_4 ?_
  refine J_iload_n (pc := 5) hX 1 rfl dX3_holdRow_5 ?_
  refine p_X3_9 (pc := 6) hX ht0 dX3_holdRow_6 (fun I3 => ?_)
  refine J_aload_n (pc := 9) hX 0 rfl dX3_holdRow_9 ?_
  refine J_iload_n (pc := 10) hX 2 rfl dX3_holdRow_10 ?_
  refine p_X3_22 (pc := 11) hX ht0 dX3_holdRow_11 (fun I4 => ?_)
  refine J_iconst (pc := 14) hX (v := (0 : Int32)) (by decide) dX3_holdRow_14 ?_
  refine J_istore_n (pc := 15) hX (lo' := [(3, ji (0 : Int32)), (0, jr t0), (1, ji p0), (2, ji p1)]) (by decide) rfl dX3_holdRow_15 ?_
  have lhg7 : ∀ mq : Nat, ∀ (v5 : Int32) (L6 : jL), J Y Z 4 Qf (jfx (X3_holdRow_F1 t0 I4) (fun _ _ => none) mq v5 L6) 16 [(0, jr t0), (3, ji v5)] [] 0 0 NC shC rfC I4 L6 := by
    intro mq
    refine jfx_J (fun (_ : Nat) (g7 : Int32 → jL → Option (jI × jL)) => ∀ (v5 : Int32) (L6 : jL), J Y Z 4 Qf (g7 v5 L6) 16 [(0, jr t0), (3, ji v5)] [] 0 0 NC shC rfC I4 L6) ?_ (fun _ g7 hg7 => ?_) mq
    · intro v5 L6
      exact J_none
    intro v5 L6
    unfold X3_holdRow_F1
    try dsimp only
    refine J_iload_n (pc := 16) hX 1 rfl dX3_holdRow_16 ?_
    refine J_aload_n (pc := 17) hX 0 rfl dX3_holdRow_17 ?_
    refine g_X3_18 (pc := 18) hX ht0 dX3_holdRow_18 ?_
    refine J_alen (pc := 21) hX (v := (40 : Int32)) (fs_3_3 t0 ht0) (by decide) dX3_holdRow_21 ?_
    refine J_icmp_ge (pc := 22) hX (tgt := 38) (by decide) dX3_holdRow_22 (fun h8 => ?_) (fun h8 => ?_)
    · exact J_vret (pc := 38) hX (hQ _) dX3_holdRow_38
    · refine J_aload_n (pc := 25) hX 0 rfl dX3_holdRow_25 ?_
      refine g_X3_18 (pc := 26) hX ht0 dX3_holdRow_26 ?_
      refine J_iload_n (pc := 29) hX 1 rfl dX3_holdRow_29 ?_
      refine J_lconst (pc := 30) hX (v := (0 : Int64)) (by decide) dX3_holdRow_30 ?_
      refine J_last (pc := 31) hX (N := 40) (fs_3_3 t0 ht0) (by decide) dX3_holdRow_31 (fun h9 L10 => ?_)
      refine J_iinc (pc := 32) hX (v := (v5 + (1 : Int32))) (lo' := [(3, ji (v5 + (1 : Int32))), (0, jr t0)]) 1 rfl (by rfl) (by decide) rfl dX3_holdRow_32 ?_
      refine J_goto (pc := 35) hX (tgt := 16) (by decide) dX3_holdRow_35 ?_
      refine J_sub [1, 0] rfl ?_
      exact hg7 (v5 + (1 : Int32)) L10
  refine J_sub [1, 0] rfl ?_
  exact lhg7 1000 (0 : Int32) L0
theorem C_X3_holdRow (Y : jY) (hz0 : Y.zf = false) (t0 : Nat) (ht0 : shC t0 = 4) (p0 : Int32) (p1 : Int32) (I0 : jI) (L0 : jL) (I1 : jI) (L1 : jL) (h : X3_holdRow t0 p0 p1 I0 L0 = some (I1, L1)) : jMet Y yX3_holdRow cX3_holdRow 4 none 2 100 0 0 [jr t0, ji p0, ji p1] NC shC rfC I0 L0 none NC shC rfC I1 L1 :=
  jmet_of _ _ h (fun Z r => jQ Y Z 0 0 none NC shC rfC r.1 r.2) (fun _ => rfl) (by decide) (Nat.le_of_ble_eq_true rfl) (fun Z hX => W_X3_holdRow hz0 t0 ht0 p0 p1 I0 L0 hX (fun _ => rfl))
def X3_hasElement (t0 : Nat) (p0 : Int32) (I0 : jI) : Option (Int32) :=
(X6_isWithin p0 (0 : Int32) ((I0 t0 2) - (1 : Int32))).bind (fun (y1 : Int32) =>
if y1 = 0 then (
some (0 : Int32))
else (
if (40 : Int32) ≤ p0 then (
some (0 : Int32))
else (
some (1 : Int32))))
set_option maxRecDepth 20000 in
set_option maxHeartbeats 4000000 in
theorem W_X3_hasElement {Y : jY} {Z : jZ} {Qf : Int32 → State → Prop} (hz0 : Y.zf = false) (t0 : Nat) (ht0 : shC t0 = 4) (p0 : Int32) (I0 : jI) (L0 : jL) (hX : jOK Y Z RX3 cX3_hasElement 2 "hasElement" (some .boolean) 2 102 0 0) (hQ : ∀ r : Int32, Qf r = jQ Y Z 0 0 (some (ji r)) NC shC rfC I0 L0) : J Y Z 2 Qf (X3_hasElement t0 p0 I0) 0 [(0, jr t0), (1, ji p0)] [] 0 0 NC shC rfC I0 L0 := by
  unfold X3_hasElement
  refine J_iload_n (pc := 0) hX 1 rfl dX3_hasElement_0 ?_
  refine J_iconst (pc := 1) hX (v := (0 : Int32)) (by decide) dX3_hasElement_1 ?_
  refine J_aload_n (pc := 2) hX 0 rfl dX3_hasElement_2 ?_
  refine g_X3_22 (pc := 3) hX ht0 dX3_hasElement_3 ?_
  refine J_iconst (pc := 6) hX (v := (1 : Int32)) (by decide) dX3_hasElement_6 ?_
  refine J_isub (pc := 7) hX dX3_hasElement_7 ?_
  refine J_call1 (fun y1 e2 => ?_)
  refine jrun_i (pc := 8) (jRunSN hX s_X3_28 (As := [ji p0, ji (0 : Int32), ji ((I0 t0 2) - (1 : Int32))]) (rest := []) (C_X6_isWithin Y hz0 p0 (0 : Int32) ((I0 t0 2) - (1 : Int32)) I0 L0 y1 e2) rfl rfl ⟨by decide, by decide⟩ ⟨Nat.le_of_ble_eq_true rfl, Nat.le_of_ble_eq_true rfl⟩ (Nat.le_of_ble_eq_true rfl) dX3_hasElement_8) ?_
  refine J_if_eq (pc := 11) hX (tgt := 27) (by decide) dX3_hasElement_11 (fun h3 => ?_) (fun h3 => ?_)
  · refine J_iconst (pc := 27) hX (v := (0 : Int32)) (by decide) dX3_hasElement_27 ?_
    exact J_zret (pc := 28) hX (by decide) (hQ _) dX3_hasElement_28
  · refine J_iload_n (pc := 14) hX 1 rfl dX3_hasElement_14 ?_
    refine J_aload_n (pc := 15) hX 0 rfl dX3_hasElement_15 ?_
    refine g_X3_18 (pc := 16) hX ht0 dX3_hasElement_16 ?_
    refine J_alen (pc := 19) hX (v := (40 : Int32)) (fs_3_3 t0 ht0) (by decide) dX3_hasElement_19 ?_
    refine J_icmp_ge (pc := 20) hX (tgt := 27) (by decide) dX3_hasElement_20 (fun h4 => ?_) (fun h4 => ?_)
    · refine J_iconst (pc := 27) hX (v := (0 : Int32)) (by decide) dX3_hasElement_27 ?_
      exact J_zret (pc := 28) hX (by decide) (hQ _) dX3_hasElement_28
    · refine J_iconst (pc := 23) hX (v := (1 : Int32)) (by decide) dX3_hasElement_23 ?_
      refine J_goto (pc := 24) hX (tgt := 28) (by decide) dX3_hasElement_24 ?_
      exact J_zret (pc := 28) hX (by decide) (hQ _) dX3_hasElement_28
theorem C_X3_hasElement (Y : jY) (hz0 : Y.zf = false) (t0 : Nat) (ht0 : shC t0 = 4) (p0 : Int32) (I0 : jI) (L0 : jL) (r : Int32) (h : X3_hasElement t0 p0 I0 = some r) : jMet Y yX3_hasElement cX3_hasElement 2 (some .boolean) 2 102 0 0 [jr t0, ji p0] NC shC rfC I0 L0 (some (ji r)) NC shC rfC I0 L0 :=
  jmet_of _ _ h (fun Z r => jQ Y Z 0 0 (some (ji r)) NC shC rfC I0 L0) (fun _ => rfl) (by decide) (Nat.le_of_ble_eq_true rfl) (fun Z hX => W_X3_hasElement hz0 t0 ht0 p0 I0 L0 hX (fun _ => rfl))
