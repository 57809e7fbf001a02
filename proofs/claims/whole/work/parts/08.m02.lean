def X6_refuse (t0 : Nat) (p0 : Int32) (I0 : jI) : Option (Int32 × jI) :=
jlet (((-52 : Int32) - p0)) (fun (y1 : Int32) =>
(X6_isWithin y1 (0 : Int32) ((5 : Int32) - (1 : Int32))).bind (fun (y2 : Int32) =>
if y2 = 0 then (
some (p0, I0))
else (
if jin y1 5 then (
if jin y1 5 then jlet (jup I0 (rfC t0 6) (y1).toNatClampNeg ((I0 (rfC t0 6) (y1).toNatClampNeg) + (1 : Int32))) (fun (I7 : jI) =>
some (p0, I7)) else none) else none)))
set_option maxRecDepth 20000 in
set_option maxHeartbeats 4000000 in
theorem W_X6_refuse {Y : jY} {Z : jZ} {Qf : Int32 × jI → State → Prop} (hz0 : Y.zf = false) (t0 : Nat) (ht0 : shC t0 = 7) (p0 : Int32) (I0 : jI) (L0 : jL) (hX : jOK Y Z RX6 cX6_refuse 3 "refuse" (some .int) 2 102 0 0) (hQ : ∀ r : Int32 × jI, Qf r = jQ Y Z 0 0 (some (ji r.1)) NC shC rfC r.2 L0) : J Y Z 3 Qf (X6_refuse t0 p0 I0) 0 [(0, jr t0), (1, ji p0)] [] 0 0 NC shC rfC I0 L0 := by
  unfold X6_refuse
  refine J_bipush (pc := 0) hX (v := (-52 : Int32)) (by decide) dX6_refuse_0 ?_
  refine J_iload_n (pc := 2) hX 1 rfl dX6_refuse_2 ?_
  refine J_isub (pc := 3) hX dX6_refuse_3 ?_
  refine J_leti (fun y1 => ?_)
  refine J_istore_n (pc := 4) hX (lo' := [(2, ji y1), (0, jr t0), (1, ji p0)]) (by decide) rfl dX6_refuse_4 ?_
  refine J_iload_n (pc := 5) hX 0 rfl dX6_refuse_5 ?_
  refine J_iconst (pc := 6) hX (v := (0 : Int32)) (by decide) dX6_refuse_6 ?_
  refine J_aload_n (pc := 7) hX 1 rfl dX6_refuse_7 ?_
  refine g_X6_35 (pc := 8) hX ht0 dX6_refuse_8 ?_
  refine J_alen (pc := 11) hX (v := (5 : Int32)) (fs_6_6 t0 ht0) (by decide) dX6_refuse_11 ?_
  refine J_iconst (pc := 12) hX (v := (1 : Int32)) (by decide) dX6_refuse_12 ?_
  refine J_isub (pc := 13) hX dX6_refuse_13 ?_
  refine J_call1 (fun y2 e3 => ?_)
  refine jrun_i (pc := 14) (jRunS hX s_X6_47 (As := [ji y1, ji (0 : Int32), ji ((5 : Int32) - (1 : Int32))]) (rest := []) (C_X6_isWithin Y hz0 y1 (0 : Int32) ((5 : Int32) - (1 : Int32)) I0 L0 y2 e3) rfl rfl ⟨by decide, by decide⟩ ⟨Nat.le_of_ble_eq_true rfl, Nat.le_of_ble_eq_true rfl⟩ (Nat.le_of_ble_eq_true rfl) dX6_refuse_14) ?_
  refine J_if_eq (pc := 17) hX (tgt := 30) (by decide) dX6_refuse_17 (fun h4 => ?_) (fun h4 => ?_)
  · refine J_iload_n (pc := 30) hX 2 rfl dX6_refuse_30 ?_
    exact J_iret (pc := 31) hX (hQ _) dX6_refuse_31
  · refine J_aload_n (pc := 20) hX 1 rfl dX6_refuse_20 ?_
    refine g_X6_35 (pc := 21) hX ht0 dX6_refuse_21 ?_
    refine J_iload_n (pc := 24) hX 0 rfl dX6_refuse_24 ?_
    refine J_dup2 (pc := 25) hX rfl rfl dX6_refuse_25 ?_
    refine J_iald (pc := 26) hX (N := 5) (fs_6_6 t0 ht0) (by decide) dX6_refuse_26 (fun h5 => ?_)
    refine J_iconst (pc := 27) hX (v := (1 : Int32)) (by decide) dX6_refuse_27 ?_
    refine J_iadd (pc := 28) hX dX6_refuse_28 ?_
    refine J_iast (pc := 29) hX (N := 5) (fs_6_6 t0 ht0) (by decide) dX6_refuse_29 (fun h6 I7 => ?_)
    refine J_iload_n (pc := 30) hX 2 rfl dX6_refuse_30 ?_
    exact J_iret (pc := 31) hX (hQ _) dX6_refuse_31
theorem C_X6_refuse (Y : jY) (hz0 : Y.zf = false) (t0 : Nat) (ht0 : shC t0 = 7) (p0 : Int32) (I0 : jI) (L0 : jL) (r : Int32) (I1 : jI) (h : X6_refuse t0 p0 I0 = some (r, I1)) : jMet Y yX6_refuse cX6_refuse 3 (some .int) 2 102 0 0 [jr t0, ji p0] NC shC rfC I0 L0 (some (ji r)) NC shC rfC I1 L0 :=
  jmet_of _ _ h (fun Z r => jQ Y Z 0 0 (some (ji r.1)) NC shC rfC r.2 L0) (fun _ => rfl) (by decide) (Nat.le_of_ble_eq_true rfl) (fun Z hX => W_X6_refuse hz0 t0 ht0 p0 I0 L0 hX (fun _ => rfl))
def X6_row (t0 : Nat) (p0 : Int32) (p1 : Int32) (p2 : Int32) (I0 : jI) (L0 : jL) : Option (Int32 × jI × jL) :=
(X6_shelfAt t0 p0).bind (fun (x1 : Nat) =>
if x1 = 0 then (
jb2 (X6_refuse t0 (-52 : Int32) I0) (fun (y5 : Int32) (I6 : jI) =>
some (y5, I6, L0)))
else (
(X6_isWithin p1 (0 : Int32) (4 : Int32)).bind (fun (y8 : Int32) =>
if y8 = 0 then (
jb2 (X6_refuse t0 (-52 : Int32) I0) (fun (y11 : Int32) (I12 : jI) =>
some (y11, I12, L0)))
else (
(X6_isWithin p2 (0 : Int32) (40 : Int32)).bind (fun (y14 : Int32) =>
if y14 = 0 then (
jb2 (X6_refuse t0 (-52 : Int32) I0) (fun (y20 : Int32) (I21 : jI) =>
some (y20, I21, L0)))
else (
jb2 (X3_holdRow x1 p1 p2 I0 L0) (fun (I17 : jI) (L18 : jL) =>
some ((1 : Int32), I17, L18))))))))
set_option maxRecDepth 20000 in
set_option maxHeartbeats 4000000 in
theorem W_X6_row {Y : jY} {Z : jZ} {Qf : Int32 × jI × jL → State → Prop} (hz0 : Y.zf = false) (t0 : Nat) (ht0 : shC t0 = 7) (p0 : Int32) (p1 : Int32) (p2 : Int32) (I0 : jI) (L0 : jL) (hX : jOK Y Z RX6 cX6_row 5 "row" (some .int) 3 124 0 0) (hQ : ∀ r : Int32 × jI × jL, Qf r = jQ Y Z 0 0 (some (ji r.1)) NC shC rfC r.2.1 r.2.2) : J Y Z 5 Qf (X6_row t0 p0 p1 p2 I0 L0) 0 [(0, jr t0), (1, ji p0), (2, ji p1), (3, ji p2)] [] 0 0 NC shC rfC I0 L0 := by
  unfold X6_row
  refine J_aload_n (pc := 0) hX 0 rfl dX6_row_0 ?_
  refine J_iload_n (pc := 1) hX 1 rfl dX6_row_1 ?_
  refine J_call1 (fun x1 e2 => ?_)
  refine jrun_r (pc := 2) (jRunV hX s_X6_43 (ci := 6) (T := TX6) (N := 8) (As := [ji p0]) (rest := []) rfl (by decide) (C_X6_shelfAt Y hz0 t0 ht0 p0 I0 L0 x1 e2) ht0 rfl rfl ⟨by decide, by decide⟩ ⟨Nat.le_of_ble_eq_true rfl, Nat.le_of_ble_eq_true rfl⟩ (Nat.le_of_ble_eq_true rfl) dX6_row_2) ?_
  have t3 := T_X6_shelfAt t0 ht0 p0  e2
  refine J_astore (pc := 5) hX (lo' := [(4, jr x1), (0, jr t0), (1, ji p0), (2, ji p1), (3, ji p2)]) (by decide) rfl dX6_row_5 ?_
  refine J_aload (pc := 7) hX 0 rfl dX6_row_7 ?_
  refine J_ifnull (pc := 9) hX (tgt := 31) (by decide) dX6_row_9 (fun h4 => ?_) (fun h4 => ?_)
  · refine J_aload_n (pc := 31) hX 1 rfl dX6_row_31 ?_
    refine J_bipush (pc := 32) hX (v := (-52 : Int32)) (by decide) dX6_row_32 ?_
    refine J_call2 (fun y5 I6 e7 => ?_)
    refine jrun_i (pc := 34) (jRunV hX s_X6_51 (ci := 6) (T := TX6) (N := 8) (As := [ji (-52 : Int32)]) (rest := []) rfl (by decide) (C_X6_refuse Y hz0 t0 ht0 (-52 : Int32) I0 L0 y5 I6 e7) ht0 rfl rfl ⟨by decide, by decide⟩ ⟨Nat.le_of_ble_eq_true rfl, Nat.le_of_ble_eq_true rfl⟩ (Nat.le_of_ble_eq_true rfl) dX6_row_34) ?_
    exact J_iret (pc := 37) hX (hQ _) dX6_row_37
  · refine J_iload_n (pc := 12) hX 3 rfl dX6_row_12 ?_
    refine J_iconst (pc := 13) hX (v := (0 : Int32)) (by decide) dX6_row_13 ?_
    refine J_iconst (pc := 14) hX (v := (4 : Int32)) (by decide) dX6_row_14 ?_
    refine J_call1 (fun y8 e9 => ?_)
    refine jrun_i (pc := 15) (jRunS hX s_X6_47 (As := [ji p1, ji (0 : Int32), ji (4 : Int32)]) (rest := []) (C_X6_isWithin Y hz0 p1 (0 : Int32) (4 : Int32) I0 L0 y8 e9) rfl rfl ⟨by decide, by decide⟩ ⟨Nat.le_of_ble_eq_true rfl, Nat.le_of_ble_eq_true rfl⟩ (Nat.le_of_ble_eq_true rfl) dX6_row_15) ?_
    refine J_if_eq (pc := 18) hX (tgt := 31) (by decide) dX6_row_18 (fun h10 => ?_) (fun h10 => ?_)
    · refine J_aload_n (pc := 31) hX 1 rfl dX6_row_31 ?_
      refine J_bipush (pc := 32) hX (v := (-52 : Int32)) (by decide) dX6_row_32 ?_
      refine J_call2 (fun y11 I12 e13 => ?_)
      refine jrun_i (pc := 34) (jRunV hX s_X6_51 (ci := 6) (T := TX6) (N := 8) (As := [ji (-52 : Int32)]) (rest := []) rfl (by decide) (C_X6_refuse Y hz0 t0 ht0 (-52 : Int32) I0 L0 y11 I12 e13) ht0 rfl rfl ⟨by decide, by decide⟩ ⟨Nat.le_of_ble_eq_true rfl, Nat.le_of_ble_eq_true rfl⟩ (Nat.le_of_ble_eq_true rfl) dX6_row_34) ?_
      exact J_iret (pc := 37) hX (hQ _) dX6_row_37
    · refine J_iload_n (pc := 21) hX 4 rfl dX6_row_21 ?_
      refine J_iconst (pc := 22) hX (v := (0 : Int32)) (by decide) dX6_row_22 ?_
      refine J_bipush (pc := 23) hX (v := (40 : Int32)) (by decide) dX6_row_23 ?_
      refine J_call1 (fun y14 e15 => ?_)
      refine jrun_i (pc := 25) (jRunS hX s_X6_47 (As := [ji p2, ji (0 : Int32), ji (40 : Int32)]) (rest := []) (C_X6_isWithin Y hz0 p2 (0 : Int32) (40 : Int32) I0 L0 y14 e15) rfl rfl ⟨by decide, by decide⟩ ⟨Nat.le_of_ble_eq_true rfl, Nat.le_of_ble_eq_true rfl⟩ (Nat.le_of_ble_eq_true rfl) dX6_row_25) ?_
      refine J_if_ne (pc := 28) hX (tgt := 38) (by decide) dX6_row_28 (fun h16 => ?_) (fun h16 => ?_)
      · refine J_aload (pc := 38) hX 0 rfl dX6_row_38 ?_
        refine J_iload_n (pc := 40) hX 3 rfl dX6_row_40 ?_
        refine J_iload_n (pc := 41) hX 4 rfl dX6_row_41 ?_
        refine J_call2 (fun I17 L18 e19 => ?_)
        refine jrun_v (pc := 42) (jRunV hX s_X6_55 (ci := 3) (T := TX3) (N := 4) (As := [ji p1, ji p2]) (rest := []) rfl (by decide) (C_X3_holdRow Y hz0 x1 (t3.resolve_left h4) p1 p2 I0 L0 I17 L18 e19) (t3.resolve_left h4) rfl rfl ⟨by decide, by decide⟩ ⟨Nat.le_of_ble_eq_true rfl, Nat.le_of_ble_eq_true rfl⟩ (Nat.le_of_ble_eq_true rfl) dX6_row_42) ?_
        refine J_iconst (pc := 45) hX (v := (1 : Int32)) (by decide) dX6_row_45 ?_
        exact J_iret (pc := 46) hX (hQ _) dX6_row_46
      · refine J_aload_n (pc := 31) hX 1 rfl dX6_row_31 ?_
        refine J_bipush (pc := 32) hX (v := (-52 : Int32)) (by decide) dX6_row_32 ?_
        refine J_call2 (fun y20 I21 e22 => ?_)
        refine jrun_i (pc := 34) (jRunV hX s_X6_51 (ci := 6) (T := TX6) (N := 8) (As := [ji (-52 : Int32)]) (rest := []) rfl (by decide) (C_X6_refuse Y hz0 t0 ht0 (-52 : Int32) I0 L0 y20 I21 e22) ht0 rfl rfl ⟨by decide, by decide⟩ ⟨Nat.le_of_ble_eq_true rfl, Nat.le_of_ble_eq_true rfl⟩ (Nat.le_of_ble_eq_true rfl) dX6_row_34) ?_
        exact J_iret (pc := 37) hX (hQ _) dX6_row_37
theorem C_X6_row (Y : jY) (hz0 : Y.zf = false) (t0 : Nat) (ht0 : shC t0 = 7) (p0 : Int32) (p1 : Int32) (p2 : Int32) (I0 : jI) (L0 : jL) (r : Int32) (I1 : jI) (L1 : jL) (h : X6_row t0 p0 p1 p2 I0 L0 = some (r, I1, L1)) : jMet Y yX6_row cX6_row 5 (some .int) 3 124 0 0 [jr t0, ji p0, ji p1, ji p2] NC shC rfC I0 L0 (some (ji r)) NC shC rfC I1 L1 :=
  jmet_of _ _ h (fun Z r => jQ Y Z 0 0 (some (ji r.1)) NC shC rfC r.2.1 r.2.2) (fun _ => rfl) (by decide) (Nat.le_of_ble_eq_true rfl) (fun Z hX => W_X6_row hz0 t0 ht0 p0 p1 p2 I0 L0 hX (fun _ => rfl))
def X6_rowRefusal (p0 : Nat) (I0 : jI) : Option (Int32) :=
if p0 = 0 then (
some (-52 : Int32))
else (
(X3_isRule p0 I0).bind (fun (y2 : Int32) =>
if y2 = 0 then (
(X3_isRow p0 I0).bind (fun (y5 : Int32) =>
if y5 = 0 then (
some (-54 : Int32))
else (
some (0 : Int32))))
else (
some (-53 : Int32))))
set_option maxRecDepth 20000 in
set_option maxHeartbeats 4000000 in
theorem W_X6_rowRefusal {Y : jY} {Z : jZ} {Qf : Int32 → State → Prop} (hz0 : Y.zf = false) (p0 : Nat) (hp0 : p0 = 0 ∨ shC p0 = 4) (I0 : jI) (L0 : jL) (hX : jOK Y Z RX6 cX6_rowRefusal 1 "rowRefusal" (some .int) 2 100 0 0) (hQ : ∀ r : Int32, Qf r = jQ Y Z 0 0 (some (ji r)) NC shC rfC I0 L0) : J Y Z 1 Qf (X6_rowRefusal p0 I0) 0 [(0, jr p0)] [] 0 0 NC shC rfC I0 L0 := by
  unfold X6_rowRefusal
  refine J_aload_n (pc := 0) hX 0 rfl dX6_rowRefusal_0 ?_
  refine J_ifnonnull (pc := 1) hX (tgt := 7) (by decide) dX6_rowRefusal_1 (fun h1 => ?_) (fun h1 => ?_)
  · refine J_aload_n (pc := 7) hX 0 rfl dX6_rowRefusal_7 ?_
    refine J_call1 (fun y2 e3 => ?_)
    refine jrun_i (pc := 8) (jRunV hX s_X6_79 (ci := 3) (T := TX3) (N := 4) (As := []) (rest := []) rfl (by decide) (C_X3_isRule Y hz0 p0 (hp0.resolve_left h1) I0 L0 y2 e3) (hp0.resolve_left h1) rfl rfl ⟨by decide, by decide⟩ ⟨Nat.le_of_ble_eq_true rfl, Nat.le_of_ble_eq_true rfl⟩ (Nat.le_of_ble_eq_true rfl) dX6_rowRefusal_8) ?_
    refine J_if_eq (pc := 11) hX (tgt := 17) (by decide) dX6_rowRefusal_11 (fun h4 => ?_) (fun h4 => ?_)
    · refine J_aload_n (pc := 17) hX 0 rfl dX6_rowRefusal_17 ?_
      refine J_call1 (fun y5 e6 => ?_)
      refine jrun_i (pc := 18) (jRunV hX s_X6_71 (ci := 3) (T := TX3) (N := 4) (As := []) (rest := []) rfl (by decide) (C_X3_isRow Y hz0 p0 (hp0.resolve_left h1) I0 L0 y5 e6) (hp0.resolve_left h1) rfl rfl ⟨by decide, by decide⟩ ⟨Nat.le_of_ble_eq_true rfl, Nat.le_of_ble_eq_true rfl⟩ (Nat.le_of_ble_eq_true rfl) dX6_rowRefusal_18) ?_
      refine J_if_eq (pc := 21) hX (tgt := 28) (by decide) dX6_rowRefusal_21 (fun h7 => ?_) (fun h7 => ?_)
      · refine J_bipush (pc := 28) hX (v := (-54 : Int32)) (by decide) dX6_rowRefusal_28 ?_
        exact J_iret (pc := 30) hX (hQ _) dX6_rowRefusal_30
      · refine J_iconst (pc := 24) hX (v := (0 : Int32)) (by decide) dX6_rowRefusal_24 ?_
        refine J_goto (pc := 25) hX (tgt := 30) (by decide) dX6_rowRefusal_25 ?_
        exact J_iret (pc := 30) hX (hQ _) dX6_rowRefusal_30
    · refine J_bipush (pc := 14) hX (v := (-53 : Int32)) (by decide) dX6_rowRefusal_14 ?_
      exact J_iret (pc := 16) hX (hQ _) dX6_rowRefusal_16
  · refine J_bipush (pc := 4) hX (v := (-52 : Int32)) (by decide) dX6_rowRefusal_4 ?_
    exact J_iret (pc := 6) hX (hQ _) dX6_rowRefusal_6
theorem C_X6_rowRefusal (Y : jY) (hz0 : Y.zf = false) (p0 : Nat) (hp0 : p0 = 0 ∨ shC p0 = 4) (I0 : jI) (L0 : jL) (r : Int32) (h : X6_rowRefusal p0 I0 = some r) : jMet Y yX6_rowRefusal cX6_rowRefusal 1 (some .int) 2 100 0 0 [jr p0] NC shC rfC I0 L0 (some (ji r)) NC shC rfC I0 L0 :=
  jmet_of _ _ h (fun Z r => jQ Y Z 0 0 (some (ji r)) NC shC rfC I0 L0) (fun _ => rfl) (by decide) (Nat.le_of_ble_eq_true rfl) (fun Z hX => W_X6_rowRefusal hz0 p0 hp0 I0 L0 hX (fun _ => rfl))
def X6_set (t0 : Nat) (p0 : Int32) (p1 : Int32) (p2 : Int64) (I0 : jI) (L0 : jL) : Option (Int32 × jI × jL) :=
(X6_shelfAt t0 p0).bind (fun (x1 : Nat) =>
(X6_rowRefusal x1 I0).bind (fun (y4 : Int32) =>
if y4 = 0 then (
if x1 = 0 then (
jb2 (X6_refuse t0 (-52 : Int32) I0) (fun (y8 : Int32) (I9 : jI) =>
some (y8, I9, L0)))
else (
(X3_hasElement x1 p1 I0).bind (fun (y11 : Int32) =>
if y11 = 0 then (
jb2 (X6_refuse t0 (-52 : Int32) I0) (fun (y16 : Int32) (I17 : jI) =>
some (y16, I17, L0)))
else (
(X3_putElement x1 p1 p2 I0 L0).bind (fun (L14 : jL) =>
some ((1 : Int32), I0, L14))))))
else (
jb2 (X6_refuse t0 y4 I0) (fun (y19 : Int32) (I20 : jI) =>
some (y19, I20, L0)))))
set_option maxRecDepth 20000 in
set_option maxHeartbeats 4000000 in
theorem W_X6_set {Y : jY} {Z : jZ} {Qf : Int32 × jI × jL → State → Prop} (hz0 : Y.zf = false) (t0 : Nat) (ht0 : shC t0 = 7) (p0 : Int32) (p1 : Int32) (p2 : Int64) (I0 : jI) (L0 : jL) (hX : jOK Y Z RX6 cX6_set 7 "set" (some .int) 4 146 0 0) (hQ : ∀ r : Int32 × jI × jL, Qf r = jQ Y Z 0 0 (some (ji r.1)) NC shC rfC r.2.1 r.2.2) : J Y Z 7 Qf (X6_set t0 p0 p1 p2 I0 L0) 0 [(0, jr t0), (1, ji p0), (2, ji p1), (3, jl p2)] [] 0 0 NC shC rfC I0 L0 := by
  unfold X6_set
  refine J_aload_n (pc := 0) hX 0 rfl dX6_set_0 ?_
  refine J_iload_n (pc := 1) hX 1 rfl dX6_set_1 ?_
  refine J_call1 (fun x1 e2 => ?_)
  refine jrun_r (pc := 2) (jRunV hX s_X6_43 (ci := 6) (T := TX6) (N := 8) (As := [ji p0]) (rest := []) rfl (by decide) (C_X6_shelfAt Y hz0 t0 ht0 p0 I0 L0 x1 e2) ht0 rfl rfl ⟨by decide, by decide⟩ ⟨Nat.le_of_ble_eq_true rfl, Nat.le_of_ble_eq_true rfl⟩ (Nat.le_of_ble_eq_true rfl) dX6_set_2) ?_
  have t3 := T_X6_shelfAt t0 ht0 p0  e2
  refine J_astore (pc := 5) hX (lo' := [(5, jr x1), (0, jr t0), (1, ji p0), (2, ji p1), (3, jl p2)]) (by decide) rfl dX6_set_5 ?_
  refine J_aload (pc := 7) hX 0 rfl dX6_set_7 ?_
  refine J_call1 (fun y4 e5 => ?_)
  refine jrun_i (pc := 9) (jRunS hX s_X6_59 (As := [jr x1]) (rest := []) (C_X6_rowRefusal Y hz0 x1 t3 I0 L0 y4 e5) rfl rfl ⟨by decide, by decide⟩ ⟨Nat.le_of_ble_eq_true rfl, Nat.le_of_ble_eq_true rfl⟩ (Nat.le_of_ble_eq_true rfl) dX6_set_9) ?_
  refine J_istore (pc := 12) hX (lo' := [(6, ji y4), (5, jr x1), (0, jr t0), (1, ji p0), (2, ji p1), (3, jl p2)]) (by decide) rfl dX6_set_12 ?_
  refine J_iload (pc := 14) hX 0 rfl dX6_set_14 ?_
  refine J_if_eq (pc := 16) hX (tgt := 26) (by decide) dX6_set_16 (fun h6 => ?_) (fun h6 => ?_)
  · refine J_aload (pc := 26) hX 1 rfl dX6_set_26 ?_
    refine J_ifnull (pc := 28) hX (tgt := 40) (by decide) dX6_set_28 (fun h7 => ?_) (fun h7 => ?_)
    · refine J_aload_n (pc := 40) hX 2 rfl dX6_set_40 ?_
      refine J_bipush (pc := 41) hX (v := (-52 : Int32)) (by decide) dX6_set_41 ?_
      refine J_call2 (fun y8 I9 e10 => ?_)
      refine jrun_i (pc := 43) (jRunV hX s_X6_51 (ci := 6) (T := TX6) (N := 8) (As := [ji (-52 : Int32)]) (rest := []) rfl (by decide) (C_X6_refuse Y hz0 t0 ht0 (-52 : Int32) I0 L0 y8 I9 e10) ht0 rfl rfl ⟨by decide, by decide⟩ ⟨Nat.le_of_ble_eq_true rfl, Nat.le_of_ble_eq_true rfl⟩ (Nat.le_of_ble_eq_true rfl) dX6_set_43) ?_
      exact J_iret (pc := 46) hX (hQ _) dX6_set_46
    · refine J_aload (pc := 31) hX 1 rfl dX6_set_31 ?_
      refine J_iload_n (pc := 33) hX 4 rfl dX6_set_33 ?_
      refine J_call1 (fun y11 e12 => ?_)
      refine jrun_i (pc := 34) (jRunV hX s_X6_63 (ci := 3) (T := TX3) (N := 4) (As := [ji p1]) (rest := []) rfl (by decide) (C_X3_hasElement Y hz0 x1 (t3.resolve_left h7) p1 I0 L0 y11 e12) (t3.resolve_left h7) rfl rfl ⟨by decide, by decide⟩ ⟨Nat.le_of_ble_eq_true rfl, Nat.le_of_ble_eq_true rfl⟩ (Nat.le_of_ble_eq_true rfl) dX6_set_34) ?_
      refine J_if_ne (pc := 37) hX (tgt := 47) (by decide) dX6_set_37 (fun h13 => ?_) (fun h13 => ?_)
      · refine J_aload (pc := 47) hX 1 rfl dX6_set_47 ?_
        refine J_iload_n (pc := 49) hX 4 rfl dX6_set_49 ?_
        refine J_lload_n (pc := 50) hX 5 rfl dX6_set_50 ?_
        refine J_call1 (fun L14 e15 => ?_)
        refine jrun_v (pc := 51) (jRunV hX s_X6_67 (ci := 3) (T := TX3) (N := 4) (As := [ji p1, jl p2]) (rest := []) rfl (by decide) (C_X3_putElement Y hz0 x1 (t3.resolve_left h7) p1 p2 I0 L0 L14 e15) (t3.resolve_left h7) rfl rfl ⟨by decide, by decide⟩ ⟨Nat.le_of_ble_eq_true rfl, Nat.le_of_ble_eq_true rfl⟩ (Nat.le_of_ble_eq_true rfl) dX6_set_51) ?_
        refine J_iconst (pc := 54) hX (v := (1 : Int32)) (by decide) dX6_set_54 ?_
        exact J_iret (pc := 55) hX (hQ _) dX6_set_55
      · refine J_aload_n (pc := 40) hX 2 rfl dX6_set_40 ?_
        refine J_bipush (pc := 41) hX (v := (-52 : Int32)) (by decide) dX6_set_41 ?_
        refine J_call2 (fun y16 I17 e18 => ?_)
        refine jrun_i (pc := 43) (jRunV hX s_X6_51 (ci := 6) (T := TX6) (N := 8) (As := [ji (-52 : Int32)]) (rest := []) rfl (by decide) (C_X6_refuse Y hz0 t0 ht0 (-52 : Int32) I0 L0 y16 I17 e18) ht0 rfl rfl ⟨by decide, by decide⟩ ⟨Nat.le_of_ble_eq_true rfl, Nat.le_of_ble_eq_true rfl⟩ (Nat.le_of_ble_eq_true rfl) dX6_set_43) ?_
        exact J_iret (pc := 46) hX (hQ _) dX6_set_46
  · refine J_aload_n (pc := 19) hX 2 rfl dX6_set_19 ?_
    refine J_iload (pc := 20) hX 0 rfl dX6_set_20 ?_
    refine J_call2 (fun y19 I20 e21 => ?_)
    refine jrun_i (pc := 22) (jRunV hX s_X6_51 (ci := 6) (T := TX6) (N := 8) (As := [ji y4]) (rest := []) rfl (by decide) (C_X6_refuse Y hz0 t0 ht0 y4 I0 L0 y19 I20 e21) ht0 rfl rfl ⟨by decide, by decide⟩ ⟨Nat.le_of_ble_eq_true rfl, Nat.le_of_ble_eq_true rfl⟩ (Nat.le_of_ble_eq_true rfl) dX6_set_22) ?_
    exact J_iret (pc := 25) hX (hQ _) dX6_set_25
theorem C_X6_set (Y : jY) (hz0 : Y.zf = false) (t0 : Nat) (ht0 : shC t0 = 7) (p0 : Int32) (p1 : Int32) (p2 : Int64) (I0 : jI) (L0 : jL) (r : Int32) (I1 : jI) (L1 : jL) (h : X6_set t0 p0 p1 p2 I0 L0 = some (r, I1, L1)) : jMet Y yX6_set cX6_set 7 (some .int) 4 146 0 0 [jr t0, ji p0, ji p1, jl p2] NC shC rfC I0 L0 (some (ji r)) NC shC rfC I1 L1 :=
  jmet_of _ _ h (fun Z r => jQ Y Z 0 0 (some (ji r.1)) NC shC rfC r.2.1 r.2.2) (fun _ => rfl) (by decide) (Nat.le_of_ble_eq_true rfl) (fun Z hX => W_X6_set hz0 t0 ht0 p0 p1 p2 I0 L0 hX (fun _ => rfl))
def X6_copy (t0 : Nat) (p0 : Int32) (p1 : Int32) (p2 : Int32) (p3 : Int32) (p4 : Int32) (I0 : jI) (L0 : jL) : Option (Int32 × jI × jL) :=
(X6_shelfAt t0 p0).bind (fun (x1 : Nat) =>
(X6_shelfAt t0 p1).bind (fun (x4 : Nat) =>
if x1 = 0 then (
jb2 (X6_refuse t0 (-52 : Int32) I0) (fun (y8 : Int32) (I9 : jI) =>
some (y8, I9, L0)))
else (
if x4 = 0 then (
jb2 (X6_refuse t0 (-52 : Int32) I0) (fun (y64 : Int32) (I65 : jI) =>
some (y64, I65, L0)))
else (
(X3_isRow x1 I0).bind (fun (y12 : Int32) =>
jlet (fun (v14 : Int32) =>
(X3_isRule x1 I0).bind (fun (y16 : Int32) =>
if y16 = 0 then (
(X3_isRule x4 I0).bind (fun (y22 : Int32) =>
if y22 = 0 then (
if v14 = 0 then (
(X3_isRow x1 I0).bind (fun (y29 : Int32) =>
if y29 = 0 then (
jb2 (X6_refuse t0 (-54 : Int32) I0) (fun (y32 : Int32) (I33 : jI) =>
some (y32, I33, L0)))
else (
(X3_isRow x4 I0).bind (fun (y35 : Int32) =>
if y35 = 0 then (
jb2 (X6_refuse t0 (-54 : Int32) I0) (fun (y52 : Int32) (I53 : jI) =>
some (y52, I53, L0)))
else (
(X3_hasElements x1 p2 p4 I0).bind (fun (y38 : Int32) =>
if y38 = 0 then (
jb2 (X6_refuse t0 (-52 : Int32) I0) (fun (y41 : Int32) (I42 : jI) =>
some (y41, I42, L0)))
else (
(X3_hasElements x4 p3 p4 I0).bind (fun (y44 : Int32) =>
if y44 = 0 then (
jb2 (X6_refuse t0 (-52 : Int32) I0) (fun (y49 : Int32) (I50 : jI) =>
some (y49, I50, L0)))
else (
if jcp p2 p3 p4 40 40 then jlet (jrow L0 (rfC x4 3) (va_cpy (L0 (rfC x1 3)) (L0 (rfC x4 3)) (p2).toNatClampNeg (p3).toNatClampNeg (p4).toNatClampNeg)) (fun (L48 : jL) =>
some (p4, I0, L48)) else none)))))))))
else (
jb2 (X6_refuse t0 (-53 : Int32) I0) (fun (y55 : Int32) (I56 : jI) =>
some (y55, I56, L0))))
else (
jb2 (X6_refuse t0 (-53 : Int32) I0) (fun (y25 : Int32) (I26 : jI) =>
some (y25, I26, L0)))))
else (
jb2 (X6_refuse t0 (-53 : Int32) I0) (fun (y19 : Int32) (I20 : jI) =>
some (y19, I20, L0))))) (fun (k15 : Int32 → Option (Int32 × jI × jL)) =>
jlet (
k15 (0 : Int32)) (fun (k58 : Option (Int32 × jI × jL)) =>
if y12 = 0 then (
k58)
else (
(X3_isRow x4 I0).bind (fun (y60 : Int32) =>
if y60 = 0 then (
k58)
else (
if (I0 x1 0) = (I0 x4 0) then (
k58)
else (
k15 (1 : Int32))))))))))))
set_option maxRecDepth 20000 in
set_option maxHeartbeats 4000000 in
theorem W_X6_copy {Y : jY} {Z : jZ} {Qf : Int32 × jI × jL → State → Prop} (hz0 : Y.zf = false) (t0 : Nat) (ht0 : shC t0 = 7) (p0 : Int32) (p1 : Int32) (p2 : Int32) (p3 : Int32) (p4 : Int32) (I0 : jI) (L0 : jL) (hX : jOK Y Z RX6 cX6_copy 9 "copy" (some .int) 3 124 0 0) (hQ : ∀ r : Int32 × jI × jL, Qf r = jQ Y Z 0 0 (some (ji r.1)) NC shC rfC r.2.1 r.2.2) : J Y Z 9 Qf (X6_copy t0 p0 p1 p2 p3 p4 I0 L0) 0 [(0, jr t0), (1, ji p0), (2, ji p1), (3, ji p2), (4, ji p3), (5, ji p4)] [] 0 0 NC shC rfC I0 L0 := by
  unfold X6_copy
  refine J_aload_n (pc := 0) hX 0 rfl dX6_copy_0 ?_
  refine J_iload_n (pc := 1) hX 1 rfl dX6_copy_1 ?_
  refine J_call1 (fun x1 e2 => ?_)
  refine jrun_r (pc := 2) (jRunV hX s_X6_43 (ci := 6) (T := TX6) (N := 8) (As := [ji p0]) (rest := []) rfl (by decide) (C_X6_shelfAt Y hz0 t0 ht0 p0 I0 L0 x1 e2) ht0 rfl rfl ⟨by decide, by decide⟩ ⟨Nat.le_of_ble_eq_true rfl, Nat.le_of_ble_eq_true rfl⟩ (Nat.le_of_ble_eq_true rfl) dX6_copy_2) ?_
  have t3 := T_X6_shelfAt t0 ht0 p0  e2
  refine J_astore (pc := 5) hX (lo' := [(6, jr x1), (0, jr t0), (1, ji p0), (2, ji p1), (3, ji p2), (4, ji p3), (5, ji p4)]) (by decide) rfl dX6_copy_5 ?_
  refine J_aload_n (pc := 7) hX 1 rfl dX6_copy_7 ?_
  refine J_iload_n (pc := 8) hX 3 rfl dX6_copy_8 ?_
  refine J_call1 (fun x4 e5 => ?_)
  refine jrun_r (pc := 9) (jRunV hX s_X6_43 (ci := 6) (T := TX6) (N := 8) (As := [ji p1]) (rest := []) rfl (by decide) (C_X6_shelfAt Y hz0 t0 ht0 p1 I0 L0 x4 e5) ht0 rfl rfl ⟨by decide, by decide⟩ ⟨Nat.le_of_ble_eq_true rfl, Nat.le_of_ble_eq_true rfl⟩ (Nat.le_of_ble_eq_true rfl) dX6_copy_9) ?_
  have t6 := T_X6_shelfAt t0 ht0 p1  e5
  refine J_astore (pc := 12) hX (lo' := [(7, jr x4), (6, jr x1), (0, jr t0), (1, ji p0), (2, ji p1), (3, ji p2), (4, ji p3), (5, ji p4)]) (by decide) rfl dX6_copy_12 ?_
  refine J_aload (pc := 14) hX 1 rfl dX6_copy_14 ?_
  refine J_ifnull (pc := 16) hX (tgt := 24) (by decide) dX6_copy_16 (fun h7 => ?_) (fun h7 => ?_)
  · refine J_aload_n (pc := 24) hX 2 rfl dX6_copy_24 ?_
    refine J_bipush (pc := 25) hX (v := (-52 : Int32)) (by decide) dX6_copy_25 ?_
    refine J_call2 (fun y8 I9 e10 => ?_)
    refine jrun_i (pc := 27) (jRunV hX s_X6_51 (ci := 6) (T := TX6) (N := 8) (As := [ji (-52 : Int32)]) (rest := []) rfl (by decide) (C_X6_refuse Y hz0 t0 ht0 (-52 : Int32) I0 L0 y8 I9 e10) ht0 rfl rfl ⟨by decide, by decide⟩ ⟨Nat.le_of_ble_eq_true rfl, Nat.le_of_ble_eq_true rfl⟩ (Nat.le_of_ble_eq_true rfl) dX6_copy_27) ?_
    exact J_iret (pc := 30) hX (hQ _) dX6_copy_30
  · refine J_aload (pc := 19) hX 0 rfl dX6_copy_19 ?_
    refine J_ifnonnull (pc := 21) hX (tgt := 31) (by decide) dX6_copy_21 (fun h11 => ?_) (fun h11 => ?_)
    · refine J_aload (pc := 31) hX 1 rfl dX6_copy_31 ?_
      refine J_call1 (fun y12 e13 => ?_)
      refine jrun_i (pc := 33) (jRunV hX s_X6_71 (ci := 3) (T := TX3) (N := 4) (As := []) (rest := []) rfl (by decide) (C_X3_isRow Y hz0 x1 (t3.resolve_left h7) I0 L0 y12 e13) (t3.resolve_left h7) rfl rfl ⟨by decide, by decide⟩ ⟨Nat.le_of_ble_eq_true rfl, Nat.le_of_ble_eq_true rfl⟩ (Nat.le_of_ble_eq_true rfl) dX6_copy_33) ?_
      refine J_join (fun (k15 : Int32 → Option (Int32 × jI × jL)) => ∀ (v14 : Int32), J Y Z 9 Qf (k15 v14) 65 [(0, jr t0), (3, ji p2), (4, ji p3), (5, ji p4), (6, jr x1), (7, jr x4)] [ji v14] 0 0 NC shC rfC I0 L0) ?_ (fun k15 hk15 => ?_)
      · intro v14
        try dsimp only
        refine J_istore (pc := 65) hX (lo' := [(8, ji v14), (0, jr t0), (3, ji p2), (4, ji p3), (5, ji p4), (6, jr x1), (7, jr x4)]) (by decide) rfl dX6_copy_65 ?_
        refine J_aload (pc := 67) hX 5 rfl dX6_copy_67 ?_
        refine J_call1 (fun y16 e17 => ?_)
        refine jrun_i (pc := 69) (jRunV hX s_X6_79 (ci := 3) (T := TX3) (N := 4) (As := []) (rest := []) rfl (by decide) (C_X3_isRule Y hz0 x1 (t3.resolve_left h7) I0 L0 y16 e17) (t3.resolve_left h7) rfl rfl ⟨by decide, by decide⟩ ⟨Nat.le_of_ble_eq_true rfl, Nat.le_of_ble_eq_true rfl⟩ (Nat.le_of_ble_eq_true rfl) dX6_copy_69) ?_
        refine J_if_ne (pc := 72) hX (tgt := 88) (by decide) dX6_copy_72 (fun h18 => ?_) (fun h18 => ?_)
        · refine J_aload_n (pc := 88) hX 1 rfl dX6_copy_88 ?_
          refine J_bipush (pc := 89) hX (v := (-53 : Int32)) (by decide) dX6_copy_89 ?_
          refine J_call2 (fun y19 I20 e21 => ?_)
          refine jrun_i (pc := 91) (jRunV hX s_X6_51 (ci := 6) (T := TX6) (N := 8) (As := [ji (-53 : Int32)]) (rest := []) rfl (by decide) (C_X6_refuse Y hz0 t0 ht0 (-53 : Int32) I0 L0 y19 I20 e21) ht0 rfl rfl ⟨by decide, by decide⟩ ⟨Nat.le_of_ble_eq_true rfl, Nat.le_of_ble_eq_true rfl⟩ (Nat.le_of_ble_eq_true rfl) dX6_copy_91) ?_
          exact J_iret (pc := 94) hX (hQ _) dX6_copy_94
        · refine J_aload (pc := 75) hX 6 rfl dX6_copy_75 ?_
          refine J_call1 (fun y22 e23 => ?_)
          refine jrun_i (pc := 77) (jRunV hX s_X6_79 (ci := 3) (T := TX3) (N := 4) (As := []) (rest := []) rfl (by decide) (C_X3_isRule Y hz0 x4 (t6.resolve_left h11) I0 L0 y22 e23) (t6.resolve_left h11) rfl rfl ⟨by decide, by decide⟩ ⟨Nat.le_of_ble_eq_true rfl, Nat.le_of_ble_eq_true rfl⟩ (Nat.le_of_ble_eq_true rfl) dX6_copy_77) ?_
          refine J_if_ne (pc := 80) hX (tgt := 88) (by decide) dX6_copy_80 (fun h24 => ?_) (fun h24 => ?_)
          · refine J_aload_n (pc := 88) hX 1 rfl dX6_copy_88 ?_
            refine J_bipush (pc := 89) hX (v := (-53 : Int32)) (by decide) dX6_copy_89 ?_
            refine J_call2 (fun y25 I26 e27 => ?_)
            refine jrun_i (pc := 91) (jRunV hX s_X6_51 (ci := 6) (T := TX6) (N := 8) (As := [ji (-53 : Int32)]) (rest := []) rfl (by decide) (C_X6_refuse Y hz0 t0 ht0 (-53 : Int32) I0 L0 y25 I26 e27) ht0 rfl rfl ⟨by decide, by decide⟩ ⟨Nat.le_of_ble_eq_true rfl, Nat.le_of_ble_eq_true rfl⟩ (Nat.le_of_ble_eq_true rfl) dX6_copy_91) ?_
            exact J_iret (pc := 94) hX (hQ _) dX6_copy_94
          · refine J_iload (pc := 83) hX 0 rfl dX6_copy_83 ?_
            refine J_if_eq (pc := 85) hX (tgt := 95) (by decide) dX6_copy_85 (fun h28 => ?_) (fun h28 => ?_)
            · refine J_aload (pc := 95) hX 5 rfl dX6_copy_95 ?_
              refine J_call1 (fun y29 e30 => ?_)
              refine jrun_i (pc := 97) (jRunV hX s_X6_71 (ci := 3) (T := TX3) (N := 4) (As := []) (rest := []) rfl (by decide) (C_X3_isRow Y hz0 x1 (t3.resolve_left h7) I0 L0 y29 e30) (t3.resolve_left h7) rfl rfl ⟨by decide, by decide⟩ ⟨Nat.le_of_ble_eq_true rfl, Nat.le_of_ble_eq_true rfl⟩ (Nat.le_of_ble_eq_true rfl) dX6_copy_97) ?_
              refine J_if_eq (pc := 100) hX (tgt := 111) (by decide) dX6_copy_100 (fun h31 => ?_) (fun h31 => ?_)
              · refine J_aload_n (pc := 111) hX 1 rfl dX6_copy_111 ?_
                refine J_bipush (pc := 112) hX (v := (-54 : Int32)) (by decide) dX6_copy_112 ?_
                refine J_call2 (fun y32 I33 e34 => ?_)
                refine jrun_i (pc := 114) (jRunV hX s_X6_51 (ci := 6) (T := TX6) (N := 8) (As := [ji (-54 : Int32)]) (rest := []) rfl (by decide) (C_X6_refuse Y hz0 t0 ht0 (-54 : Int32) I0 L0 y32 I33 e34) ht0 rfl rfl ⟨by decide, by decide⟩ ⟨Nat.le_of_ble_eq_true rfl, Nat.le_of_ble_eq_true rfl⟩ (Nat.le_of_ble_eq_true rfl) dX6_copy_114) ?_
                exact J_iret (pc := 117) hX (hQ _) dX6_copy_117
              · refine J_aload (pc := 103) hX 6 rfl dX6_copy_103 ?_
                refine J_call1 (fun y35 e36 => ?_)
                refine jrun_i (pc := 105) (jRunV hX s_X6_71 (ci := 3) (T := TX3) (N := 4) (As := []) (rest := []) rfl (by decide) (C_X3_isRow Y hz0 x4 (t6.resolve_left h11) I0 L0 y35 e36) (t6.resolve_left h11) rfl rfl ⟨by decide, by decide⟩ ⟨Nat.le_of_ble_eq_true rfl, Nat.le_of_ble_eq_true rfl⟩ (Nat.le_of_ble_eq_true rfl) dX6_copy_105) ?_
                refine J_if_ne (pc := 108) hX (tgt := 118) (by decide) dX6_copy_108 (fun h37 => ?_) (fun h37 => ?_)
                · refine J_aload (pc := 118) hX 5 rfl dX6_copy_118 ?_
                  refine J_iload_n (pc := 120) hX 2 rfl dX6_copy_120 ?_
                  refine J_iload (pc := 121) hX 4 rfl dX6_copy_121 ?_
                  refine J_call1 (fun y38 e39 => ?_)
                  refine jrun_i (pc := 123) (jRunV hX s_X6_82 (ci := 3) (T := TX3) (N := 4) (As := [ji p2, ji p4]) (rest := []) rfl (by decide) (C_X3_hasElements Y hz0 x1 (t3.resolve_left h7) p2 p4 I0 L0 y38 e39) (t3.resolve_left h7) rfl rfl ⟨by decide, by decide⟩ ⟨Nat.le_of_ble_eq_true rfl, Nat.le_of_ble_eq_true rfl⟩ (Nat.le_of_ble_eq_true rfl) dX6_copy_123) ?_
                  refine J_if_eq (pc := 126) hX (tgt := 141) (by decide) dX6_copy_126 (fun h40 => ?_) (fun h40 => ?_)
                  · refine J_aload_n (pc := 141) hX 1 rfl dX6_copy_141 ?_
                    refine J_bipush (pc := 142) hX (v := (-52 : Int32)) (by decide) dX6_copy_142 ?_
                    refine J_call2 (fun y41 I42 e43 => ?_)
                    refine jrun_i (pc := 144) (jRunV hX s_X6_51 (ci := 6) (T := TX6) (N := 8) (As := [ji (-52 : Int32)]) (rest := []) rfl (by decide) (C_X6_refuse Y hz0 t0 ht0 (-52 : Int32) I0 L0 y41 I42 e43) ht0 rfl rfl ⟨by decide, by decide⟩ ⟨Nat.le_of_ble_eq_true rfl, Nat.le_of_ble_eq_true rfl⟩ (Nat.le_of_ble_eq_true rfl) dX6_copy_144) ?_
                    exact J_iret (pc := 147) hX (hQ _) dX6_copy_147
                  · refine J_aload (pc := 129) hX 6 rfl dX6_copy_129 ?_
                    refine J_iload (pc := 131) hX 3 rfl dX6_copy_131 ?_
                    refine J_iload (pc := 133) hX 4 rfl dX6_copy_133 ?_
                    refine J_call1 (fun y44 e45 => ?_)
                    refine jrun_i (pc := 135) (jRunV hX s_X6_82 (ci := 3) (T := TX3) (N := 4) (As := [ji p3, ji p4]) (rest := []) rfl (by decide) (C_X3_hasElements Y hz0 x4 (t6.resolve_left h11) p3 p4 I0 L0 y44 e45) (t6.resolve_left h11) rfl rfl ⟨by decide, by decide⟩ ⟨Nat.le_of_ble_eq_true rfl, Nat.le_of_ble_eq_true rfl⟩ (Nat.le_of_ble_eq_true rfl) dX6_copy_135) ?_
                    refine J_if_ne (pc := 138) hX (tgt := 148) (by decide) dX6_copy_138 (fun h46 => ?_) (fun h46 => ?_)
                    · refine J_aload (pc := 148) hX 5 rfl dX6_copy_148 ?_
                      refine g_X6_86 (pc := 150) hX (t3.resolve_left h7) dX6_copy_150 ?_
                      refine J_iload_n (pc := 153) hX 2 rfl dX6_copy_153 ?_
                      refine J_aload (pc := 154) hX 6 rfl dX6_copy_154 ?_
                      refine g_X6_86 (pc := 156) hX (t6.resolve_left h11) dX6_copy_156 ?_
                      refine J_iload (pc := 159) hX 3 rfl dX6_copy_159 ?_
                      refine J_iload (pc := 161) hX 4 rfl dX6_copy_161 ?_
                      refine J_copyl (pc := 163) hX hz0 a_X6_90 (n0 := 40) (n1 := 40) ⟨(fs_3_3 x1 (t3.resolve_left h7)), by decide, by decide⟩ ⟨(fs_3_3 x4 (t6.resolve_left h11)), by decide, by decide⟩ ⟨by decide, by decide⟩ (Nat.le_of_ble_eq_true rfl) dX6_copy_163 (fun h47 L48 => ?_)
                      refine J_iload (pc := 166) hX 4 rfl dX6_copy_166 ?_
                      exact J_iret (pc := 168) hX (hQ _) dX6_copy_168
                    · refine J_aload_n (pc := 141) hX 1 rfl dX6_copy_141 ?_
                      refine J_bipush (pc := 142) hX (v := (-52 : Int32)) (by decide) dX6_copy_142 ?_
                      refine J_call2 (fun y49 I50 e51 => ?_)
                      refine jrun_i (pc := 144) (jRunV hX s_X6_51 (ci := 6) (T := TX6) (N := 8) (As := [ji (-52 : Int32)]) (rest := []) rfl (by decide) (C_X6_refuse Y hz0 t0 ht0 (-52 : Int32) I0 L0 y49 I50 e51) ht0 rfl rfl ⟨by decide, by decide⟩ ⟨Nat.le_of_ble_eq_true rfl, Nat.le_of_ble_eq_true rfl⟩ (Nat.le_of_ble_eq_true rfl) dX6_copy_144) ?_
                      exact J_iret (pc := 147) hX (hQ _) dX6_copy_147
                · refine J_aload_n (pc := 111) hX 1 rfl dX6_copy_111 ?_
                  refine J_bipush (pc := 112) hX (v := (-54 : Int32)) (by decide) dX6_copy_112 ?_
                  refine J_call2 (fun y52 I53 e54 => ?_)
                  refine jrun_i (pc := 114) (jRunV hX s_X6_51 (ci := 6) (T := TX6) (N := 8) (As := [ji (-54 : Int32)]) (rest := []) rfl (by decide) (C_X6_refuse Y hz0 t0 ht0 (-54 : Int32) I0 L0 y52 I53 e54) ht0 rfl rfl ⟨by decide, by decide⟩ ⟨Nat.le_of_ble_eq_true rfl, Nat.le_of_ble_eq_true rfl⟩ (Nat.le_of_ble_eq_true rfl) dX6_copy_114) ?_
                  exact J_iret (pc := 117) hX (hQ _) dX6_copy_117
            · refine J_aload_n (pc := 88) hX 1 rfl dX6_copy_88 ?_
              refine J_bipush (pc := 89) hX (v := (-53 : Int32)) (by decide) dX6_copy_89 ?_
              refine J_call2 (fun y55 I56 e57 => ?_)
              refine jrun_i (pc := 91) (jRunV hX s_X6_51 (ci := 6) (T := TX6) (N := 8) (As := [ji (-53 : Int32)]) (rest := []) rfl (by decide) (C_X6_refuse Y hz0 t0 ht0 (-53 : Int32) I0 L0 y55 I56 e57) ht0 rfl rfl ⟨by decide, by decide⟩ ⟨Nat.le_of_ble_eq_true rfl, Nat.le_of_ble_eq_true rfl⟩ (Nat.le_of_ble_eq_true rfl) dX6_copy_91) ?_
              exact J_iret (pc := 94) hX (hQ _) dX6_copy_94
      refine J_join (fun (k58 : Option (Int32 × jI × jL)) => J Y Z 9 Qf (k58) 64 [(0, jr t0), (3, ji p2), (4, ji p3), (5, ji p4), (6, jr x1), (7, jr x4)] [] 0 0 NC shC rfC I0 L0) ?_ (fun k58 hk58 => ?_)
      · refine J_iconst (pc := 64) hX (v := (0 : Int32)) (by decide) dX6_copy_64 ?_
        exact hk15 (0 : Int32)
      refine J_if_eq (pc := 36) hX (tgt := 64) (by decide) dX6_copy_36 (fun h59 => ?_) (fun h59 => ?_)
      · refine J_sub [2, 5, 6, 7, 1, 0] rfl ?_
        exact hk58
      · refine J_aload (pc := 39) hX 0 rfl dX6_copy_39 ?_
        refine J_call1 (fun y60 e61 => ?_)
        refine jrun_i (pc := 41) (jRunV hX s_X6_71 (ci := 3) (T := TX3) (N := 4) (As := []) (rest := []) rfl (by decide) (C_X3_isRow Y hz0 x4 (t6.resolve_left h11) I0 L0 y60 e61) (t6.resolve_left h11) rfl rfl ⟨by decide, by decide⟩ ⟨Nat.le_of_ble_eq_true rfl, Nat.le_of_ble_eq_true rfl⟩ (Nat.le_of_ble_eq_true rfl) dX6_copy_41) ?_
        refine J_if_eq (pc := 44) hX (tgt := 64) (by decide) dX6_copy_44 (fun h62 => ?_) (fun h62 => ?_)
        · refine J_sub [2, 5, 6, 7, 1, 0] rfl ?_
          exact hk58
        · refine J_aload (pc := 47) hX 1 rfl dX6_copy_47 ?_
          refine g_X6_75 (pc := 49) hX (t3.resolve_left h7) dX6_copy_49 ?_
          refine J_aload (pc := 52) hX 0 rfl dX6_copy_52 ?_
          refine g_X6_75 (pc := 54) hX (t6.resolve_left h11) dX6_copy_54 ?_
          refine J_icmp_eq (pc := 57) hX (tgt := 64) (by decide) dX6_copy_57 (fun h63 => ?_) (fun h63 => ?_)
          · refine J_sub [2, 5, 6, 7, 1, 0] rfl ?_
            exact hk58
          · refine J_iconst (pc := 60) hX (v := (1 : Int32)) (by decide) dX6_copy_60 ?_
            refine J_goto (pc := 61) hX (tgt := 65) (by decide) dX6_copy_61 ?_
            refine J_sub [2, 5, 6, 7, 1, 0] rfl ?_
            exact hk15 (1 : Int32)
    · refine J_aload_n (pc := 24) hX 2 rfl dX6_copy_24 ?_
      refine J_bipush (pc := 25) hX (v := (-52 : Int32)) (by decide) dX6_copy_25 ?_
      refine J_call2 (fun y64 I65 e66 => ?_)
      refine jrun_i (pc := 27) (jRunV hX s_X6_51 (ci := 6) (T := TX6) (N := 8) (As := [ji (-52 : Int32)]) (rest := []) rfl (by decide) (C_X6_refuse Y hz0 t0 ht0 (-52 : Int32) I0 L0 y64 I65 e66) ht0 rfl rfl ⟨by decide, by decide⟩ ⟨Nat.le_of_ble_eq_true rfl, Nat.le_of_ble_eq_true rfl⟩ (Nat.le_of_ble_eq_true rfl) dX6_copy_27) ?_
      exact J_iret (pc := 30) hX (hQ _) dX6_copy_30
theorem C_X6_copy (Y : jY) (hz0 : Y.zf = false) (t0 : Nat) (ht0 : shC t0 = 7) (p0 : Int32) (p1 : Int32) (p2 : Int32) (p3 : Int32) (p4 : Int32) (I0 : jI) (L0 : jL) (r : Int32) (I1 : jI) (L1 : jL) (h : X6_copy t0 p0 p1 p2 p3 p4 I0 L0 = some (r, I1, L1)) : jMet Y yX6_copy cX6_copy 9 (some .int) 3 124 0 0 [jr t0, ji p0, ji p1, ji p2, ji p3, ji p4] NC shC rfC I0 L0 (some (ji r)) NC shC rfC I1 L1 :=
  jmet_of _ _ h (fun Z r => jQ Y Z 0 0 (some (ji r.1)) NC shC rfC r.2.1 r.2.2) (fun _ => rfl) (by decide) (Nat.le_of_ble_eq_true rfl) (fun Z hX => W_X6_copy hz0 t0 ht0 p0 p1 p2 p3 p4 I0 L0 hX (fun _ => rfl))
def X6_element (t0 : Nat) (p0 : Int32) (p1 : Int32) (I0 : jI) (L0 : jL) : Option (Int64) :=
(X6_shelfAt t0 p0).bind (fun (x1 : Nat) =>
if x1 = 0 then (
some (0 : Int64))
else (
(X3_elementAt x1 p1 I0 L0).bind (fun (y5 : Int64) =>
some y5)))
set_option maxRecDepth 20000 in
set_option maxHeartbeats 4000000 in
theorem W_X6_element {Y : jY} {Z : jZ} {Qf : Int64 → State → Prop} (hz0 : Y.zf = false) (t0 : Nat) (ht0 : shC t0 = 7) (p0 : Int32) (p1 : Int32) (I0 : jI) (L0 : jL) (hX : jOK Y Z RX6 cX6_element 4 "element" (some .long) 4 144 0 0) (hQ : ∀ r : Int64, Qf r = jQ Y Z 0 0 (some (jl r)) NC shC rfC I0 L0) : J Y Z 4 Qf (X6_element t0 p0 p1 I0 L0) 0 [(0, jr t0), (1, ji p0), (2, ji p1)] [] 0 0 NC shC rfC I0 L0 := by
  unfold X6_element
  refine J_aload_n (pc := 0) hX 0 rfl dX6_element_0 ?_
  refine J_iload_n (pc := 1) hX 1 rfl dX6_element_1 ?_
  refine J_call1 (fun x1 e2 => ?_)
  refine jrun_r (pc := 2) (jRunV hX s_X6_43 (ci := 6) (T := TX6) (N := 8) (As := [ji p0]) (rest := []) rfl (by decide) (C_X6_shelfAt Y hz0 t0 ht0 p0 I0 L0 x1 e2) ht0 rfl rfl ⟨by decide, by decide⟩ ⟨Nat.le_of_ble_eq_true rfl, Nat.le_of_ble_eq_true rfl⟩ (Nat.le_of_ble_eq_true rfl) dX6_element_2) ?_
  have t3 := T_X6_shelfAt t0 ht0 p0  e2
  refine J_astore_n (pc := 5) hX (lo' := [(3, jr x1), (0, jr t0), (1, ji p0), (2, ji p1)]) (by decide) rfl dX6_element_5 ?_
  refine J_aload_n (pc := 6) hX 0 rfl dX6_element_6 ?_
  refine J_ifnonnull (pc := 7) hX (tgt := 14) (by decide) dX6_element_7 (fun h4 => ?_) (fun h4 => ?_)
  · refine J_aload_n (pc := 14) hX 0 rfl dX6_element_14 ?_
    refine J_iload_n (pc := 15) hX 3 rfl dX6_element_15 ?_
    refine J_call1 (fun y5 e6 => ?_)
    refine jrun_l (pc := 16) (jRunV hX s_X6_96 (ci := 3) (T := TX3) (N := 4) (As := [ji p1]) (rest := []) rfl (by decide) (C_X3_elementAt Y hz0 x1 (t3.resolve_left h4) p1 I0 L0 y5 e6) (t3.resolve_left h4) rfl rfl ⟨by decide, by decide⟩ ⟨Nat.le_of_ble_eq_true rfl, Nat.le_of_ble_eq_true rfl⟩ (Nat.le_of_ble_eq_true rfl) dX6_element_16) ?_
    exact J_lret (pc := 19) hX (hQ _) dX6_element_19
  · refine J_lconst (pc := 10) hX (v := (0 : Int64)) (by decide) dX6_element_10 ?_
    refine J_goto (pc := 11) hX (tgt := 19) (by decide) dX6_element_11 ?_
    exact J_lret (pc := 19) hX (hQ _) dX6_element_19
theorem C_X6_element (Y : jY) (hz0 : Y.zf = false) (t0 : Nat) (ht0 : shC t0 = 7) (p0 : Int32) (p1 : Int32) (I0 : jI) (L0 : jL) (r : Int64) (h : X6_element t0 p0 p1 I0 L0 = some r) : jMet Y yX6_element cX6_element 4 (some .long) 4 144 0 0 [jr t0, ji p0, ji p1] NC shC rfC I0 L0 (some (jl r)) NC shC rfC I0 L0 :=
  jmet_of _ _ h (fun Z r => jQ Y Z 0 0 (some (jl r)) NC shC rfC I0 L0) (fun _ => rfl) (by decide) (Nat.le_of_ble_eq_true rfl) (fun Z hX => W_X6_element hz0 t0 ht0 p0 p1 I0 L0 hX (fun _ => rfl))
def X6_holds (t0 : Nat) (p0 : Int32) (I0 : jI) : Option (Int32) :=
(X6_shelfAt t0 p0).bind (fun (x1 : Nat) =>
if x1 = 0 then (
some (-1 : Int32))
else (
(X3_isRule x1 I0).bind (fun (y5 : Int32) =>
if y5 = 0 then (
some (I0 x1 0))
else (
some ((10 : Int32) + (I0 x1 1))))))
set_option maxRecDepth 20000 in
set_option maxHeartbeats 4000000 in
theorem W_X6_holds {Y : jY} {Z : jZ} {Qf : Int32 → State → Prop} (hz0 : Y.zf = false) (t0 : Nat) (ht0 : shC t0 = 7) (p0 : Int32) (I0 : jI) (L0 : jL) (hX : jOK Y Z RX6 cX6_holds 3 "holds" (some .int) 3 123 0 0) (hQ : ∀ r : Int32, Qf r = jQ Y Z 0 0 (some (ji r)) NC shC rfC I0 L0) : J Y Z 3 Qf (X6_holds t0 p0 I0) 0 [(0, jr t0), (1, ji p0)] [] 0 0 NC shC rfC I0 L0 := by
  unfold X6_holds
  refine J_aload_n (pc := 0) hX 0 rfl dX6_holds_0 ?_
  refine J_iload_n (pc := 1) hX 1 rfl dX6_holds_1 ?_
  refine J_call1 (fun x1 e2 => ?_)
  refine jrun_r (pc := 2) (jRunV hX s_X6_43 (ci := 6) (T := TX6) (N := 8) (As := [ji p0]) (rest := []) rfl (by decide) (C_X6_shelfAt Y hz0 t0 ht0 p0 I0 L0 x1 e2) ht0 rfl rfl ⟨by decide, by decide⟩ ⟨Nat.le_of_ble_eq_true rfl, Nat.le_of_ble_eq_true rfl⟩ (Nat.le_of_ble_eq_true rfl) dX6_holds_2) ?_
  have t3 := T_X6_shelfAt t0 ht0 p0  e2
  refine J_astore_n (pc := 5) hX (lo' := [(2, jr x1), (0, jr t0), (1, ji p0)]) (by decide) rfl dX6_holds_5 ?_
  refine J_aload_n (pc := 6) hX 0 rfl dX6_holds_6 ?_
  refine J_ifnonnull (pc := 7) hX (tgt := 12) (by decide) dX6_holds_7 (fun h4 => ?_) (fun h4 => ?_)
  · refine J_aload_n (pc := 12) hX 0 rfl dX6_holds_12 ?_
    refine J_call1 (fun y5 e6 => ?_)
    refine jrun_i (pc := 13) (jRunV hX s_X6_79 (ci := 3) (T := TX3) (N := 4) (As := []) (rest := []) rfl (by decide) (C_X3_isRule Y hz0 x1 (t3.resolve_left h4) I0 L0 y5 e6) (t3.resolve_left h4) rfl rfl ⟨by decide, by decide⟩ ⟨Nat.le_of_ble_eq_true rfl, Nat.le_of_ble_eq_true rfl⟩ (Nat.le_of_ble_eq_true rfl) dX6_holds_13) ?_
    refine J_if_eq (pc := 16) hX (tgt := 29) (by decide) dX6_holds_16 (fun h7 => ?_) (fun h7 => ?_)
    · refine J_aload_n (pc := 29) hX 0 rfl dX6_holds_29 ?_
      refine g_X6_75 (pc := 30) hX (t3.resolve_left h4) dX6_holds_30 ?_
      exact J_iret (pc := 33) hX (hQ _) dX6_holds_33
    · refine J_bipush (pc := 19) hX (v := (10 : Int32)) (by decide) dX6_holds_19 ?_
      refine J_aload_n (pc := 21) hX 0 rfl dX6_holds_21 ?_
      refine g_X6_100 (pc := 22) hX (t3.resolve_left h4) dX6_holds_22 ?_
      refine J_iadd (pc := 25) hX dX6_holds_25 ?_
      refine J_goto (pc := 26) hX (tgt := 33) (by decide) dX6_holds_26 ?_
      exact J_iret (pc := 33) hX (hQ _) dX6_holds_33
  · refine J_iconst (pc := 10) hX (v := (-1 : Int32)) (by decide) dX6_holds_10 ?_
    exact J_iret (pc := 11) hX (hQ _) dX6_holds_11
theorem C_X6_holds (Y : jY) (hz0 : Y.zf = false) (t0 : Nat) (ht0 : shC t0 = 7) (p0 : Int32) (I0 : jI) (L0 : jL) (r : Int32) (h : X6_holds t0 p0 I0 = some r) : jMet Y yX6_holds cX6_holds 3 (some .int) 3 123 0 0 [jr t0, ji p0] NC shC rfC I0 L0 (some (ji r)) NC shC rfC I0 L0 :=
  jmet_of _ _ h (fun Z r => jQ Y Z 0 0 (some (ji r)) NC shC rfC I0 L0) (fun _ => rfl) (by decide) (Nat.le_of_ble_eq_true rfl) (fun Z hX => W_X6_holds hz0 t0 ht0 p0 I0 L0 hX (fun _ => rfl))
def X6_show (t0 : Nat) (p0 : Int32) (p1 : Int32) (I0 : jI) : Option (Int32 × jI) :=
(X6_shelfAt t0 p0).bind (fun (x1 : Nat) =>
if x1 = 0 then (
jb2 (X6_refuse t0 (-52 : Int32) I0) (fun (y5 : Int32) (I6 : jI) =>
some (y5, I6)))
else (
jlet (
if p1 = (-1 : Int32) then (
(X3_holdNothing x1 I0).bind (fun (I12 : jI) =>
some ((1 : Int32), I12)))
else (
(X3_holdRule x1 p1 I0).bind (fun (I10 : jI) =>
some ((1 : Int32), I10)))) (fun (k8 : Option (Int32 × jI)) =>
if p1 = (-1 : Int32) then (
k8)
else (
(X6_isWithin p1 (1 : Int32) (I0 (rfC t0 0) 1)).bind (fun (y15 : Int32) =>
if y15 = 0 then (
jb2 (X6_refuse t0 (-52 : Int32) I0) (fun (y18 : Int32) (I19 : jI) =>
some (y18, I19)))
else (
k8))))))
set_option maxRecDepth 20000 in
set_option maxHeartbeats 4000000 in
theorem W_X6_show {Y : jY} {Z : jZ} {Qf : Int32 × jI → State → Prop} (hz0 : Y.zf = false) (t0 : Nat) (ht0 : shC t0 = 7) (p0 : Int32) (p1 : Int32) (I0 : jI) (L0 : jL) (hX : jOK Y Z RX6 cX6_show 4 "show" (some .int) 3 124 0 0) (hQ : ∀ r : Int32 × jI, Qf r = jQ Y Z 0 0 (some (ji r.1)) NC shC rfC r.2 L0) : J Y Z 4 Qf (X6_show t0 p0 p1 I0) 0 [(0, jr t0), (1, ji p0), (2, ji p1)] [] 0 0 NC shC rfC I0 L0 := by
  unfold X6_show
  refine J_aload_n (pc := 0) hX 0 rfl dX6_show_0 ?_
  refine J_iload_n (pc := 1) hX 1 rfl dX6_show_1 ?_
  refine J_call1 (fun x1 e2 => ?_)
  refine jrun_r (pc := 2) (jRunV hX s_X6_43 (ci := 6) (T := TX6) (N := 8) (As := [ji p0]) (rest := []) rfl (by decide) (C_X6_shelfAt Y hz0 t0 ht0 p0 I0 L0 x1 e2) ht0 rfl rfl ⟨by decide, by decide⟩ ⟨Nat.le_of_ble_eq_true rfl, Nat.le_of_ble_eq_true rfl⟩ (Nat.le_of_ble_eq_true rfl) dX6_show_2) ?_
  have t3 := T_X6_shelfAt t0 ht0 p0  e2
  refine J_astore_n (pc := 5) hX (lo' := [(3, jr x1), (0, jr t0), (1, ji p0), (2, ji p1)]) (by decide) rfl dX6_show_5 ?_
  refine J_aload_n (pc := 6) hX 0 rfl dX6_show_6 ?_
  refine J_ifnull (pc := 7) hX (tgt := 30) (by decide) dX6_show_7 (fun h4 => ?_) (fun h4 => ?_)
  · refine J_aload_n (pc := 30) hX 1 rfl dX6_show_30 ?_
    refine J_bipush (pc := 31) hX (v := (-52 : Int32)) (by decide) dX6_show_31 ?_
    refine J_call2 (fun y5 I6 e7 => ?_)
    refine jrun_i (pc := 33) (jRunV hX s_X6_51 (ci := 6) (T := TX6) (N := 8) (As := [ji (-52 : Int32)]) (rest := []) rfl (by decide) (C_X6_refuse Y hz0 t0 ht0 (-52 : Int32) I0 L0 y5 I6 e7) ht0 rfl rfl ⟨by decide, by decide⟩ ⟨Nat.le_of_ble_eq_true rfl, Nat.le_of_ble_eq_true rfl⟩ (Nat.le_of_ble_eq_true rfl) dX6_show_33) ?_
    exact J_iret (pc := 36) hX (hQ _) dX6_show_36
  · refine J_iload_n (pc := 10) hX 3 rfl dX6_show_10 ?_
    refine J_iconst (pc := 11) hX (v := (-1 : Int32)) (by decide) dX6_show_11 ?_
    refine J_join (fun (k8 : Option (Int32 × jI)) => J Y Z 4 Qf (k8) 37 [(2, ji p1), (3, jr x1)] [] 0 0 NC shC rfC I0 L0) ?_ (fun k8 hk8 => ?_)
    · refine J_iload_n (pc := 37) hX 0 rfl dX6_show_37 ?_
      refine J_iconst (pc := 38) hX (v := (-1 : Int32)) (by decide) dX6_show_38 ?_
      refine J_icmp_ne (pc := 39) hX (tgt := 49) (by decide) dX6_show_39 (fun h9 => ?_) (fun h9 => ?_)
      · refine J_aload_n (pc := 49) hX 1 rfl dX6_show_49 ?_
        refine J_iload_n (pc := 50) hX 0 rfl dX6_show_50 ?_
        refine J_call1 (fun I10 e11 => ?_)
        refine jrun_v (pc := 51) (jRunV hX s_X6_109 (ci := 3) (T := TX3) (N := 4) (As := [ji p1]) (rest := []) rfl (by decide) (C_X3_holdRule Y hz0 x1 (t3.resolve_left h4) p1 I0 L0 I10 e11) (t3.resolve_left h4) rfl rfl ⟨by decide, by decide⟩ ⟨Nat.le_of_ble_eq_true rfl, Nat.le_of_ble_eq_true rfl⟩ (Nat.le_of_ble_eq_true rfl) dX6_show_51) ?_
        refine J_iconst (pc := 54) hX (v := (1 : Int32)) (by decide) dX6_show_54 ?_
        exact J_iret (pc := 55) hX (hQ _) dX6_show_55
      · refine J_aload_n (pc := 42) hX 1 rfl dX6_show_42 ?_
        refine J_call1 (fun I12 e13 => ?_)
        refine jrun_v (pc := 43) (jRunV hX s_X6_106 (ci := 3) (T := TX3) (N := 4) (As := []) (rest := []) rfl (by decide) (C_X3_holdNothing Y hz0 x1 (t3.resolve_left h4) I0 L0 I12 e13) (t3.resolve_left h4) rfl rfl ⟨by decide, by decide⟩ ⟨Nat.le_of_ble_eq_true rfl, Nat.le_of_ble_eq_true rfl⟩ (Nat.le_of_ble_eq_true rfl) dX6_show_43) ?_
        refine J_goto (pc := 46) hX (tgt := 54) (by decide) dX6_show_46 ?_
        refine J_iconst (pc := 54) hX (v := (1 : Int32)) (by decide) dX6_show_54 ?_
        exact J_iret (pc := 55) hX (hQ _) dX6_show_55
    refine J_icmp_eq (pc := 12) hX (tgt := 37) (by decide) dX6_show_12 (fun h14 => ?_) (fun h14 => ?_)
    · refine J_sub [3, 0] rfl ?_
      exact hk8
    · refine J_iload_n (pc := 15) hX 3 rfl dX6_show_15 ?_
      refine J_iconst (pc := 16) hX (v := (1 : Int32)) (by decide) dX6_show_16 ?_
      refine J_aload_n (pc := 17) hX 1 rfl dX6_show_17 ?_
      refine g_X6_10 (pc := 18) hX ht0 dX6_show_18 ?_
      refine g_X6_103 (pc := 21) hX (fs_6_0 t0 ht0) dX6_show_21 ?_
      refine J_call1 (fun y15 e16 => ?_)
      refine jrun_i (pc := 24) (jRunS hX s_X6_47 (As := [ji p1, ji (1 : Int32), ji (I0 (rfC t0 0) 1)]) (rest := []) (C_X6_isWithin Y hz0 p1 (1 : Int32) (I0 (rfC t0 0) 1) I0 L0 y15 e16) rfl rfl ⟨by decide, by decide⟩ ⟨Nat.le_of_ble_eq_true rfl, Nat.le_of_ble_eq_true rfl⟩ (Nat.le_of_ble_eq_true rfl) dX6_show_24) ?_
      refine J_if_ne (pc := 27) hX (tgt := 37) (by decide) dX6_show_27 (fun h17 => ?_) (fun h17 => ?_)
      · refine J_sub [3, 0] rfl ?_
        exact hk8
      · refine J_aload_n (pc := 30) hX 1 rfl dX6_show_30 ?_
        refine J_bipush (pc := 31) hX (v := (-52 : Int32)) (by decide) dX6_show_31 ?_
        refine J_call2 (fun y18 I19 e20 => ?_)
        refine jrun_i (pc := 33) (jRunV hX s_X6_51 (ci := 6) (T := TX6) (N := 8) (As := [ji (-52 : Int32)]) (rest := []) rfl (by decide) (C_X6_refuse Y hz0 t0 ht0 (-52 : Int32) I0 L0 y18 I19 e20) ht0 rfl rfl ⟨by decide, by decide⟩ ⟨Nat.le_of_ble_eq_true rfl, Nat.le_of_ble_eq_true rfl⟩ (Nat.le_of_ble_eq_true rfl) dX6_show_33) ?_
        exact J_iret (pc := 36) hX (hQ _) dX6_show_36
theorem C_X6_show (Y : jY) (hz0 : Y.zf = false) (t0 : Nat) (ht0 : shC t0 = 7) (p0 : Int32) (p1 : Int32) (I0 : jI) (L0 : jL) (r : Int32) (I1 : jI) (h : X6_show t0 p0 p1 I0 = some (r, I1)) : jMet Y yX6_show cX6_show 4 (some .int) 3 124 0 0 [jr t0, ji p0, ji p1] NC shC rfC I0 L0 (some (ji r)) NC shC rfC I1 L0 :=
  jmet_of _ _ h (fun Z r => jQ Y Z 0 0 (some (ji r.1)) NC shC rfC r.2 L0) (fun _ => rfl) (by decide) (Nat.le_of_ble_eq_true rfl) (fun Z hX => W_X6_show hz0 t0 ht0 p0 p1 I0 L0 hX (fun _ => rfl))
def X6_isUnder_F1 (p1 : Int32) (g3 : Int32 → Int32 → Option (Int32)) : Int32 → Int32 → Option (Int32) := fun (v1 : Int32) (v2 : Int32) =>
if (9 : Int32) ≤ v2 then (
some (0 : Int32))
else (
(X6_isWithin v1 (0 : Int32) ((9 : Int32) - (1 : Int32))).bind (fun (y5 : Int32) =>
if y5 = 0 then (
some (0 : Int32))
else (
if v1 = p1 then (
some (1 : Int32))
else (
if jin v1 9 then (
jlet ((jUnder v1)) (fun (y10 : Int32) =>
g3 y10 (v2 + (1 : Int32)))) else none))))
def X6_isUnder (p0 : Int32) (p1 : Int32) (I0 : jI) : Option (Int32) :=
jfx (X6_isUnder_F1 p1) (fun _ _ => none) 1000 p0 (0 : Int32)
set_option maxRecDepth 20000 in
set_option maxHeartbeats 4000000 in
theorem W_X6_isUnder {Y : jY} {Z : jZ} {Qf : Int32 → State → Prop} (hz0 : Y.zf = false) (p0 : Int32) (p1 : Int32) (I0 : jI) (L0 : jL) (hX : jOK Y Z RX6 cX6_isUnder 4 "isUnder" (some .boolean) 2 102 0 0) (hQ : ∀ r : Int32, Qf r = jQ Y Z 0 0 (some (ji r)) NC shC rfC I0 L0) : J Y Z 4 Qf (X6_isUnder p0 p1 I0) 0 [(0, ji p0), (1, ji p1)] [] 0 0 NC shC rfC I0 L0 := by
  unfold X6_isUnder
  refine J_iload_n (pc := 0) hX 0 rfl dX6_isUnder_0 ?_
  refine J_istore_n (pc := 1) hX (lo' := [(2, ji p0), (0, ji p0), (1, ji p1)]) (by decide) rfl dX6_isUnder_1 ?_
  refine J_iconst (pc := 2) hX (v := (0 : Int32)) (by decide) dX6_isUnder_2 ?_
  refine J_istore_n (pc := 3) hX (lo' := [(3, ji (0 : Int32)), (2, ji p0), (0, ji p0), (1, ji p1)]) (by decide) rfl dX6_isUnder_3 ?_
  have lhg3 : ∀ mq : Nat, ∀ (v1 : Int32) (v2 : Int32), J Y Z 4 Qf (jfx (X6_isUnder_F1 p1) (fun _ _ => none) mq v1 v2) 4 [(1, ji p1), (2, ji v1), (3, ji v2)] [] 0 0 NC shC rfC I0 L0 := by
    intro mq
    refine jfx_J (fun (_ : Nat) (g3 : Int32 → Int32 → Option (Int32)) => ∀ (v1 : Int32) (v2 : Int32), J Y Z 4 Qf (g3 v1 v2) 4 [(1, ji p1), (2, ji v1), (3, ji v2)] [] 0 0 NC shC rfC I0 L0) ?_ (fun _ g3 hg3 => ?_) mq
    · intro v1 v2
      exact J_none
    intro v1 v2
    unfold X6_isUnder_F1
    try dsimp only
    refine J_iload_n (pc := 4) hX 2 rfl dX6_isUnder_4 ?_
    refine J_gets (pc := 5) hX u_X6_324 dX6_isUnder_5 ?_
    refine J_ulen (pc := 8) hX (v := 9) (by decide) dX6_isUnder_8 ?_
    refine J_icmp_ge (pc := 9) hX (tgt := 45) (by decide) dX6_isUnder_9 (fun h4 => ?_) (fun h4 => ?_)
    · refine J_iconst (pc := 45) hX (v := (0 : Int32)) (by decide) dX6_isUnder_45 ?_
      exact J_zret (pc := 46) hX (by decide) (hQ _) dX6_isUnder_46
    · refine J_iload_n (pc := 12) hX 1 rfl dX6_isUnder_12 ?_
      refine J_iconst (pc := 13) hX (v := (0 : Int32)) (by decide) dX6_isUnder_13 ?_
      refine J_gets (pc := 14) hX u_X6_324 dX6_isUnder_14 ?_
      refine J_ulen (pc := 17) hX (v := 9) (by decide) dX6_isUnder_17 ?_
      refine J_iconst (pc := 18) hX (v := (1 : Int32)) (by decide) dX6_isUnder_18 ?_
      refine J_isub (pc := 19) hX dX6_isUnder_19 ?_
      refine J_call1 (fun y5 e6 => ?_)
      refine jrun_i (pc := 20) (jRunS hX s_X6_47 (As := [ji v1, ji (0 : Int32), ji ((9 : Int32) - (1 : Int32))]) (rest := []) (C_X6_isWithin Y hz0 v1 (0 : Int32) ((9 : Int32) - (1 : Int32)) I0 L0 y5 e6) rfl rfl ⟨by decide, by decide⟩ ⟨Nat.le_of_ble_eq_true rfl, Nat.le_of_ble_eq_true rfl⟩ (Nat.le_of_ble_eq_true rfl) dX6_isUnder_20) ?_
      refine J_if_eq (pc := 23) hX (tgt := 45) (by decide) dX6_isUnder_23 (fun h7 => ?_) (fun h7 => ?_)
      · refine J_iconst (pc := 45) hX (v := (0 : Int32)) (by decide) dX6_isUnder_45 ?_
        exact J_zret (pc := 46) hX (by decide) (hQ _) dX6_isUnder_46
      · refine J_iload_n (pc := 26) hX 1 rfl dX6_isUnder_26 ?_
        refine J_iload_n (pc := 27) hX 0 rfl dX6_isUnder_27 ?_
        refine J_icmp_ne (pc := 28) hX (tgt := 33) (by decide) dX6_isUnder_28 (fun h8 => ?_) (fun h8 => ?_)
        · refine J_gets (pc := 33) hX u_X6_324 dX6_isUnder_33 ?_
          refine J_iload_n (pc := 36) hX 1 rfl dX6_isUnder_36 ?_
          refine J_uld (pc := 37) hX dX6_isUnder_37 (fun h9 => ?_)
          refine J_leti (fun y10 => ?_)
          refine J_istore_n (pc := 38) hX (lo' := [(2, ji y10), (1, ji p1), (3, ji v2)]) (by decide) rfl dX6_isUnder_38 ?_
          refine J_iinc (pc := 39) hX (v := (v2 + (1 : Int32))) (lo' := [(3, ji (v2 + (1 : Int32))), (2, ji y10), (1, ji p1)]) 2 rfl (by rfl) (by decide) rfl dX6_isUnder_39 ?_
          refine J_goto (pc := 42) hX (tgt := 4) (by decide) dX6_isUnder_42 ?_
          refine J_sub [2, 1, 0] rfl ?_
          exact hg3 y10 (v2 + (1 : Int32))
        · refine J_iconst (pc := 31) hX (v := (1 : Int32)) (by decide) dX6_isUnder_31 ?_
          exact J_zret (pc := 32) hX (by decide) (hQ _) dX6_isUnder_32
  refine J_sub [3, 1, 0] rfl ?_
  exact lhg3 1000 p0 (0 : Int32)
theorem C_X6_isUnder (Y : jY) (hz0 : Y.zf = false) (p0 : Int32) (p1 : Int32) (I0 : jI) (L0 : jL) (r : Int32) (h : X6_isUnder p0 p1 I0 = some r) : jMet Y yX6_isUnder cX6_isUnder 4 (some .boolean) 2 102 0 0 [ji p0, ji p1] NC shC rfC I0 L0 (some (ji r)) NC shC rfC I0 L0 :=
  jmet_of _ _ h (fun Z r => jQ Y Z 0 0 (some (ji r)) NC shC rfC I0 L0) (fun _ => rfl) (by decide) (Nat.le_of_ble_eq_true rfl) (fun Z hX => W_X6_isUnder hz0 p0 p1 I0 L0 hX (fun _ => rfl))
def X6_says (t0 : Nat) (p0 : Int32) (p1 : Int32) (I0 : jI) : Option (Int32 × jI) :=
(X6_shelfAt t0 p0).bind (fun (x1 : Nat) =>
if x1 = 0 then (
jb2 (X6_refuse t0 (-52 : Int32) I0) (fun (y5 : Int32) (I6 : jI) =>
some (y5, I6)))
else (
(X6_isWithin p1 (0 : Int32) (8 : Int32)).bind (fun (y8 : Int32) =>
if y8 = 0 then (
jb2 (X6_refuse t0 (-52 : Int32) I0) (fun (y32 : Int32) (I33 : jI) =>
some (y32, I33)))
else (
(X3_isRow x1 I0).bind (fun (y11 : Int32) =>
if y11 = 0 then (
(X4_levelAt (rfC t0 0) (I0 x1 1) I0).bind (fun (x14 : Nat) =>
if x14 = 0 then (
jb2 (X6_refuse t0 (-54 : Int32) I0) (fun (y26 : Int32) (I27 : jI) =>
some (y26, I27)))
else (
(X6_isUnder (I0 x14 2) p1 I0).bind (fun (y18 : Int32) =>
if y18 = 0 then (
jb2 (X6_refuse t0 (-53 : Int32) I0) (fun (y23 : Int32) (I24 : jI) =>
some (y23, I24)))
else (
(X2_saysAs x14 p1 I0).bind (fun (y21 : Int32) =>
some (y21, I0)))))))
else (
jb2 (X6_refuse t0 (-53 : Int32) I0) (fun (y29 : Int32) (I30 : jI) =>
some (y29, I30))))))))
set_option maxRecDepth 20000 in
set_option maxHeartbeats 4000000 in
theorem W_X6_says {Y : jY} {Z : jZ} {Qf : Int32 × jI → State → Prop} (hz0 : Y.zf = false) (t0 : Nat) (ht0 : shC t0 = 7) (p0 : Int32) (p1 : Int32) (I0 : jI) (L0 : jL) (hX : jOK Y Z RX6 cX6_says 5 "says" (some .int) 4 145 0 0) (hQ : ∀ r : Int32 × jI, Qf r = jQ Y Z 0 0 (some (ji r.1)) NC shC rfC r.2 L0) : J Y Z 5 Qf (X6_says t0 p0 p1 I0) 0 [(0, jr t0), (1, ji p0), (2, ji p1)] [] 0 0 NC shC rfC I0 L0 := by
  unfold X6_says
  refine J_aload_n (pc := 0) hX 0 rfl dX6_says_0 ?_
  refine J_iload_n (pc := 1) hX 1 rfl dX6_says_1 ?_
  refine J_call1 (fun x1 e2 => ?_)
  refine jrun_r (pc := 2) (jRunV hX s_X6_43 (ci := 6) (T := TX6) (N := 8) (As := [ji p0]) (rest := []) rfl (by decide) (C_X6_shelfAt Y hz0 t0 ht0 p0 I0 L0 x1 e2) ht0 rfl rfl ⟨by decide, by decide⟩ ⟨Nat.le_of_ble_eq_true rfl, Nat.le_of_ble_eq_true rfl⟩ (Nat.le_of_ble_eq_true rfl) dX6_says_2) ?_
  have t3 := T_X6_shelfAt t0 ht0 p0  e2
  refine J_astore_n (pc := 5) hX (lo' := [(3, jr x1), (0, jr t0), (1, ji p0), (2, ji p1)]) (by decide) rfl dX6_says_5 ?_
  refine J_aload_n (pc := 6) hX 0 rfl dX6_says_6 ?_
  refine J_ifnull (pc := 7) hX (tgt := 20) (by decide) dX6_says_7 (fun h4 => ?_) (fun h4 => ?_)
  · refine J_aload_n (pc := 20) hX 1 rfl dX6_says_20 ?_
    refine J_bipush (pc := 21) hX (v := (-52 : Int32)) (by decide) dX6_says_21 ?_
    refine J_call2 (fun y5 I6 e7 => ?_)
    refine jrun_i (pc := 23) (jRunV hX s_X6_51 (ci := 6) (T := TX6) (N := 8) (As := [ji (-52 : Int32)]) (rest := []) rfl (by decide) (C_X6_refuse Y hz0 t0 ht0 (-52 : Int32) I0 L0 y5 I6 e7) ht0 rfl rfl ⟨by decide, by decide⟩ ⟨Nat.le_of_ble_eq_true rfl, Nat.le_of_ble_eq_true rfl⟩ (Nat.le_of_ble_eq_true rfl) dX6_says_23) ?_
    exact J_iret (pc := 26) hX (hQ _) dX6_says_26
  · refine J_iload_n (pc := 10) hX 3 rfl dX6_says_10 ?_
    refine J_iconst (pc := 11) hX (v := (0 : Int32)) (by decide) dX6_says_11 ?_
    refine J_bipush (pc := 12) hX (v := (8 : Int32)) (by decide) dX6_says_12 ?_
    refine J_call1 (fun y8 e9 => ?_)
    refine jrun_i (pc := 14) (jRunS hX s_X6_47 (As := [ji p1, ji (0 : Int32), ji (8 : Int32)]) (rest := []) (C_X6_isWithin Y hz0 p1 (0 : Int32) (8 : Int32) I0 L0 y8 e9) rfl rfl ⟨by decide, by decide⟩ ⟨Nat.le_of_ble_eq_true rfl, Nat.le_of_ble_eq_true rfl⟩ (Nat.le_of_ble_eq_true rfl) dX6_says_14) ?_
    refine J_if_ne (pc := 17) hX (tgt := 27) (by decide) dX6_says_17 (fun h10 => ?_) (fun h10 => ?_)
    · refine J_aload_n (pc := 27) hX 0 rfl dX6_says_27 ?_
      refine J_call1 (fun y11 e12 => ?_)
      refine jrun_i (pc := 28) (jRunV hX s_X6_71 (ci := 3) (T := TX3) (N := 4) (As := []) (rest := []) rfl (by decide) (C_X3_isRow Y hz0 x1 (t3.resolve_left h4) I0 L0 y11 e12) (t3.resolve_left h4) rfl rfl ⟨by decide, by decide⟩ ⟨Nat.le_of_ble_eq_true rfl, Nat.le_of_ble_eq_true rfl⟩ (Nat.le_of_ble_eq_true rfl) dX6_says_28) ?_
      refine J_if_eq (pc := 31) hX (tgt := 41) (by decide) dX6_says_31 (fun h13 => ?_) (fun h13 => ?_)
      · refine J_aload_n (pc := 41) hX 1 rfl dX6_says_41 ?_
        refine g_X6_10 (pc := 42) hX ht0 dX6_says_42 ?_
        refine J_aload_n (pc := 45) hX 0 rfl dX6_says_45 ?_
        refine g_X6_100 (pc := 46) hX (t3.resolve_left h4) dX6_says_46 ?_
        refine J_call1 (fun x14 e15 => ?_)
        refine jrun_r (pc := 49) (jRunV hX s_X6_113 (ci := 4) (T := TX4) (N := 18) (As := [ji (I0 x1 1)]) (rest := []) rfl (by decide) (C_X4_levelAt Y hz0 (rfC t0 0) (fs_6_0 t0 ht0) (I0 x1 1) I0 L0 x14 e15) (fs_6_0 t0 ht0) rfl rfl ⟨by decide, by decide⟩ ⟨Nat.le_of_ble_eq_true rfl, Nat.le_of_ble_eq_true rfl⟩ (Nat.le_of_ble_eq_true rfl) dX6_says_49) ?_
        have t16 := T_X4_levelAt (rfC t0 0) (fs_6_0 t0 ht0) (I0 x1 1) I0 e15
        refine J_astore (pc := 52) hX (lo' := [(4, jr x14), (3, jr x1), (0, jr t0), (1, ji p0), (2, ji p1)]) (by decide) rfl dX6_says_52 ?_
        refine J_aload (pc := 54) hX 0 rfl dX6_says_54 ?_
        refine J_ifnonnull (pc := 56) hX (tgt := 66) (by decide) dX6_says_56 (fun h17 => ?_) (fun h17 => ?_)
        · refine J_aload (pc := 66) hX 0 rfl dX6_says_66 ?_
          refine g_X6_117 (pc := 68) hX (t16.resolve_left h17) dX6_says_68 ?_
          refine J_iload_n (pc := 71) hX 4 rfl dX6_says_71 ?_
          refine J_call1 (fun y18 e19 => ?_)
          refine jrun_i (pc := 72) (jRunS hX s_X6_122 (As := [ji (I0 x14 2), ji p1]) (rest := []) (C_X6_isUnder Y hz0 (I0 x14 2) p1 I0 L0 y18 e19) rfl rfl ⟨by decide, by decide⟩ ⟨Nat.le_of_ble_eq_true rfl, Nat.le_of_ble_eq_true rfl⟩ (Nat.le_of_ble_eq_true rfl) dX6_says_72) ?_
          refine J_if_ne (pc := 75) hX (tgt := 85) (by decide) dX6_says_75 (fun h20 => ?_) (fun h20 => ?_)
          · refine J_aload (pc := 85) hX 0 rfl dX6_says_85 ?_
            refine J_iload_n (pc := 87) hX 4 rfl dX6_says_87 ?_
            refine J_call1 (fun y21 e22 => ?_)
            refine jrun_i (pc := 88) (jRunV hX s_X6_125 (ci := 2) (T := TX2) (N := 19) (As := [ji p1]) (rest := []) rfl (by decide) (C_X2_saysAs Y hz0 x14 (t16.resolve_left h17) p1 I0 L0 y21 e22) (t16.resolve_left h17) rfl rfl ⟨by decide, by decide⟩ ⟨Nat.le_of_ble_eq_true rfl, Nat.le_of_ble_eq_true rfl⟩ (Nat.le_of_ble_eq_true rfl) dX6_says_88) ?_
            exact J_iret (pc := 91) hX (hQ _) dX6_says_91
          · refine J_aload_n (pc := 78) hX 2 rfl dX6_says_78 ?_
            refine J_bipush (pc := 79) hX (v := (-53 : Int32)) (by decide) dX6_says_79 ?_
            refine J_call2 (fun y23 I24 e25 => ?_)
            refine jrun_i (pc := 81) (jRunV hX s_X6_51 (ci := 6) (T := TX6) (N := 8) (As := [ji (-53 : Int32)]) (rest := []) rfl (by decide) (C_X6_refuse Y hz0 t0 ht0 (-53 : Int32) I0 L0 y23 I24 e25) ht0 rfl rfl ⟨by decide, by decide⟩ ⟨Nat.le_of_ble_eq_true rfl, Nat.le_of_ble_eq_true rfl⟩ (Nat.le_of_ble_eq_true rfl) dX6_says_81) ?_
            exact J_iret (pc := 84) hX (hQ _) dX6_says_84
        · refine J_aload_n (pc := 59) hX 2 rfl dX6_says_59 ?_
          refine J_bipush (pc := 60) hX (v := (-54 : Int32)) (by decide) dX6_says_60 ?_
          refine J_call2 (fun y26 I27 e28 => ?_)
          refine jrun_i (pc := 62) (jRunV hX s_X6_51 (ci := 6) (T := TX6) (N := 8) (As := [ji (-54 : Int32)]) (rest := []) rfl (by decide) (C_X6_refuse Y hz0 t0 ht0 (-54 : Int32) I0 L0 y26 I27 e28) ht0 rfl rfl ⟨by decide, by decide⟩ ⟨Nat.le_of_ble_eq_true rfl, Nat.le_of_ble_eq_true rfl⟩ (Nat.le_of_ble_eq_true rfl) dX6_says_62) ?_
          exact J_iret (pc := 65) hX (hQ _) dX6_says_65
      · refine J_aload_n (pc := 34) hX 1 rfl dX6_says_34 ?_
        refine J_bipush (pc := 35) hX (v := (-53 : Int32)) (by decide) dX6_says_35 ?_
        refine J_call2 (fun y29 I30 e31 => ?_)
        refine jrun_i (pc := 37) (jRunV hX s_X6_51 (ci := 6) (T := TX6) (N := 8) (As := [ji (-53 : Int32)]) (rest := []) rfl (by decide) (C_X6_refuse Y hz0 t0 ht0 (-53 : Int32) I0 L0 y29 I30 e31) ht0 rfl rfl ⟨by decide, by decide⟩ ⟨Nat.le_of_ble_eq_true rfl, Nat.le_of_ble_eq_true rfl⟩ (Nat.le_of_ble_eq_true rfl) dX6_says_37) ?_
        exact J_iret (pc := 40) hX (hQ _) dX6_says_40
    · refine J_aload_n (pc := 20) hX 1 rfl dX6_says_20 ?_
      refine J_bipush (pc := 21) hX (v := (-52 : Int32)) (by decide) dX6_says_21 ?_
      refine J_call2 (fun y32 I33 e34 => ?_)
      refine jrun_i (pc := 23) (jRunV hX s_X6_51 (ci := 6) (T := TX6) (N := 8) (As := [ji (-52 : Int32)]) (rest := []) rfl (by decide) (C_X6_refuse Y hz0 t0 ht0 (-52 : Int32) I0 L0 y32 I33 e34) ht0 rfl rfl ⟨by decide, by decide⟩ ⟨Nat.le_of_ble_eq_true rfl, Nat.le_of_ble_eq_true rfl⟩ (Nat.le_of_ble_eq_true rfl) dX6_says_23) ?_
      exact J_iret (pc := 26) hX (hQ _) dX6_says_26
theorem C_X6_says (Y : jY) (hz0 : Y.zf = false) (t0 : Nat) (ht0 : shC t0 = 7) (p0 : Int32) (p1 : Int32) (I0 : jI) (L0 : jL) (r : Int32) (I1 : jI) (h : X6_says t0 p0 p1 I0 = some (r, I1)) : jMet Y yX6_says cX6_says 5 (some .int) 4 145 0 0 [jr t0, ji p0, ji p1] NC shC rfC I0 L0 (some (ji r)) NC shC rfC I1 L0 :=
  jmet_of _ _ h (fun Z r => jQ Y Z 0 0 (some (ji r.1)) NC shC rfC r.2 L0) (fun _ => rfl) (by decide) (Nat.le_of_ble_eq_true rfl) (fun Z hX => W_X6_says hz0 t0 ht0 p0 p1 I0 L0 hX (fun _ => rfl))
def X6_feed (t0 : Nat) (p0 : Int32) (I0 : jI) : Option (Int32 × jI) :=
(X6_isWithin p0 (0 : Int32) (255 : Int32)).bind (fun (y1 : Int32) =>
if y1 = 0 then (
jb2 (X6_refuse t0 (-52 : Int32) I0) (fun (y12 : Int32) (I13 : jI) =>
some (y12, I13)))
else (
(X5_isFull (rfC t0 4) I0).bind (fun (y4 : Int32) =>
if y4 = 0 then (
(X5_append (rfC t0 4) p0 I0).bind (fun (I7 : jI) =>
some ((I7 (rfC t0 4) 0), I7)))
else (
jb2 (X6_refuse t0 (-56 : Int32) I0) (fun (y9 : Int32) (I10 : jI) =>
some (y9, I10))))))
set_option maxRecDepth 20000 in
set_option maxHeartbeats 4000000 in
theorem W_X6_feed {Y : jY} {Z : jZ} {Qf : Int32 × jI → State → Prop} (hz0 : Y.zf = false) (t0 : Nat) (ht0 : shC t0 = 7) (p0 : Int32) (I0 : jI) (L0 : jL) (hX : jOK Y Z RX6 cX6_feed 2 "feed" (some .int) 3 124 0 0) (hQ : ∀ r : Int32 × jI, Qf r = jQ Y Z 0 0 (some (ji r.1)) NC shC rfC r.2 L0) : J Y Z 2 Qf (X6_feed t0 p0 I0) 0 [(0, jr t0), (1, ji p0)] [] 0 0 NC shC rfC I0 L0 := by
  unfold X6_feed
  refine J_iload_n (pc := 0) hX 1 rfl dX6_feed_0 ?_
  refine J_iconst (pc := 1) hX (v := (0 : Int32)) (by decide) dX6_feed_1 ?_
  refine J_sipush (pc := 2) hX (v := (255 : Int32)) (by decide) dX6_feed_2 ?_
  refine J_call1 (fun y1 e2 => ?_)
  refine jrun_i (pc := 5) (jRunS hX s_X6_47 (As := [ji p0, ji (0 : Int32), ji (255 : Int32)]) (rest := []) (C_X6_isWithin Y hz0 p0 (0 : Int32) (255 : Int32) I0 L0 y1 e2) rfl rfl ⟨by decide, by decide⟩ ⟨Nat.le_of_ble_eq_true rfl, Nat.le_of_ble_eq_true rfl⟩ (Nat.le_of_ble_eq_true rfl) dX6_feed_5) ?_
  refine J_if_ne (pc := 8) hX (tgt := 18) (by decide) dX6_feed_8 (fun h3 => ?_) (fun h3 => ?_)
  · refine J_aload_n (pc := 18) hX 0 rfl dX6_feed_18 ?_
    refine g_X6_25 (pc := 19) hX ht0 dX6_feed_19 ?_
    refine J_call1 (fun y4 e5 => ?_)
    refine jrun_i (pc := 22) (jRunV hX s_X6_128 (ci := 5) (T := TX5) (N := 8) (As := []) (rest := []) rfl (by decide) (C_X5_isFull Y hz0 (rfC t0 4) (fs_6_4 t0 ht0) I0 L0 y4 e5) (fs_6_4 t0 ht0) rfl rfl ⟨by decide, by decide⟩ ⟨Nat.le_of_ble_eq_true rfl, Nat.le_of_ble_eq_true rfl⟩ (Nat.le_of_ble_eq_true rfl) dX6_feed_22) ?_
    refine J_if_eq (pc := 25) hX (tgt := 35) (by decide) dX6_feed_25 (fun h6 => ?_) (fun h6 => ?_)
    · refine J_aload_n (pc := 35) hX 0 rfl dX6_feed_35 ?_
      refine g_X6_25 (pc := 36) hX ht0 dX6_feed_36 ?_
      refine J_iload_n (pc := 39) hX 1 rfl dX6_feed_39 ?_
      refine J_call1 (fun I7 e8 => ?_)
      refine jrun_v (pc := 40) (jRunV hX s_X6_131 (ci := 5) (T := TX5) (N := 8) (As := [ji p0]) (rest := []) rfl (by decide) (C_X5_append Y hz0 (rfC t0 4) (fs_6_4 t0 ht0) p0 I0 L0 I7 e8) (fs_6_4 t0 ht0) rfl rfl ⟨by decide, by decide⟩ ⟨Nat.le_of_ble_eq_true rfl, Nat.le_of_ble_eq_true rfl⟩ (Nat.le_of_ble_eq_true rfl) dX6_feed_40) ?_
      refine J_aload_n (pc := 43) hX 0 rfl dX6_feed_43 ?_
      refine g_X6_25 (pc := 44) hX ht0 dX6_feed_44 ?_
      refine g_X6_134 (pc := 47) hX (fs_6_4 t0 ht0) dX6_feed_47 ?_
      exact J_iret (pc := 50) hX (hQ _) dX6_feed_50
    · refine J_aload_n (pc := 28) hX 0 rfl dX6_feed_28 ?_
      refine J_bipush (pc := 29) hX (v := (-56 : Int32)) (by decide) dX6_feed_29 ?_
      refine J_call2 (fun y9 I10 e11 => ?_)
      refine jrun_i (pc := 31) (jRunV hX s_X6_51 (ci := 6) (T := TX6) (N := 8) (As := [ji (-56 : Int32)]) (rest := []) rfl (by decide) (C_X6_refuse Y hz0 t0 ht0 (-56 : Int32) I0 L0 y9 I10 e11) ht0 rfl rfl ⟨by decide, by decide⟩ ⟨Nat.le_of_ble_eq_true rfl, Nat.le_of_ble_eq_true rfl⟩ (Nat.le_of_ble_eq_true rfl) dX6_feed_31) ?_
      exact J_iret (pc := 34) hX (hQ _) dX6_feed_34
  · refine J_aload_n (pc := 11) hX 0 rfl dX6_feed_11 ?_
    refine J_bipush (pc := 12) hX (v := (-52 : Int32)) (by decide) dX6_feed_12 ?_
    refine J_call2 (fun y12 I13 e14 => ?_)
    refine jrun_i (pc := 14) (jRunV hX s_X6_51 (ci := 6) (T := TX6) (N := 8) (As := [ji (-52 : Int32)]) (rest := []) rfl (by decide) (C_X6_refuse Y hz0 t0 ht0 (-52 : Int32) I0 L0 y12 I13 e14) ht0 rfl rfl ⟨by decide, by decide⟩ ⟨Nat.le_of_ble_eq_true rfl, Nat.le_of_ble_eq_true rfl⟩ (Nat.le_of_ble_eq_true rfl) dX6_feed_14) ?_
    exact J_iret (pc := 17) hX (hQ _) dX6_feed_17
theorem C_X6_feed (Y : jY) (hz0 : Y.zf = false) (t0 : Nat) (ht0 : shC t0 = 7) (p0 : Int32) (I0 : jI) (L0 : jL) (r : Int32) (I1 : jI) (h : X6_feed t0 p0 I0 = some (r, I1)) : jMet Y yX6_feed cX6_feed 2 (some .int) 3 124 0 0 [jr t0, ji p0] NC shC rfC I0 L0 (some (ji r)) NC shC rfC I1 L0 :=
  jmet_of _ _ h (fun Z r => jQ Y Z 0 0 (some (ji r.1)) NC shC rfC r.2 L0) (fun _ => rfl) (by decide) (Nat.le_of_ble_eq_true rfl) (fun Z hX => W_X6_feed hz0 t0 ht0 p0 I0 L0 hX (fun _ => rfl))
def X6_wipe (t0 : Nat) (I0 : jI) : Option (Int32 × jI) :=
jlet ((I0 (rfC t0 4) 0)) (fun (y1 : Int32) =>
jlet (jup I0 (rfC t0 4) 0 (0 : Int32)) (fun (I2 : jI) =>
some (y1, I2)))
set_option maxRecDepth 20000 in
set_option maxHeartbeats 4000000 in
theorem W_X6_wipe {Y : jY} {Z : jZ} {Qf : Int32 × jI → State → Prop} (hz0 : Y.zf = false) (t0 : Nat) (ht0 : shC t0 = 7) (I0 : jI) (L0 : jL) (hX : jOK Y Z RX6 cX6_wipe 2 "wipe" (some .int) 1 80 0 0) (hQ : ∀ r : Int32 × jI, Qf r = jQ Y Z 0 0 (some (ji r.1)) NC shC rfC r.2 L0) : J Y Z 2 Qf (X6_wipe t0 I0) 0 [(0, jr t0)] [] 0 0 NC shC rfC I0 L0 := by
  unfold X6_wipe
  refine J_aload_n (pc := 0) hX 0 rfl dX6_wipe_0 ?_
  refine g_X6_25 (pc := 1) hX ht0 dX6_wipe_1 ?_
  refine g_X6_134 (pc := 4) hX (fs_6_4 t0 ht0) dX6_wipe_4 ?_
  refine J_leti (fun y1 => ?_)
  refine J_istore_n (pc := 7) hX (lo' := [(1, ji y1), (0, jr t0)]) (by decide) rfl dX6_wipe_7 ?_
  refine J_aload_n (pc := 8) hX 1 rfl dX6_wipe_8 ?_
  refine g_X6_25 (pc := 9) hX ht0 dX6_wipe_9 ?_
  refine J_iconst (pc := 12) hX (v := (0 : Int32)) (by decide) dX6_wipe_12 ?_
  refine p_X6_134 (pc := 13) hX (fs_6_4 t0 ht0) dX6_wipe_13 (fun I2 => ?_)
  refine J_iload_n (pc := 16) hX 0 rfl dX6_wipe_16 ?_
  exact J_iret (pc := 17) hX (hQ _) dX6_wipe_17
theorem C_X6_wipe (Y : jY) (hz0 : Y.zf = false) (t0 : Nat) (ht0 : shC t0 = 7) (I0 : jI) (L0 : jL) (r : Int32) (I1 : jI) (h : X6_wipe t0 I0 = some (r, I1)) : jMet Y yX6_wipe cX6_wipe 2 (some .int) 1 80 0 0 [jr t0] NC shC rfC I0 L0 (some (ji r)) NC shC rfC I1 L0 :=
  jmet_of _ _ h (fun Z r => jQ Y Z 0 0 (some (ji r.1)) NC shC rfC r.2 L0) (fun _ => rfl) (by decide) (Nat.le_of_ble_eq_true rfl) (fun Z hX => W_X6_wipe hz0 t0 ht0 I0 L0 hX (fun _ => rfl))
def X6_doPart (t0 : Nat) (p0 : Int32) (I0 : jI) : Option (Int32 × jI) :=
(X5_letterOf (rfC t0 4) p0 I0).bind (fun (y1 : Int32) =>
(X5_numberOf (rfC t0 4) p0 I0).bind (fun (y3 : Int32) =>
if y1 = (114 : Int32) then (
jb2 (X4_access (rfC t0 0) y3 (0 : Int32) (0 : Int32) I0) (fun (y20 : Int32) (I21 : jI) =>
some (y20, I21)))
else (
if y1 = (119 : Int32) then (
(X5_valueOf (rfC t0 4) p0 I0).bind (fun (y15 : Int32) =>
jb2 (X4_access (rfC t0 0) y3 (1 : Int32) y15 I0) (fun (y17 : Int32) (I18 : jI) =>
some (y17, I18))))
else (
jlet (fun (I7 : jI) =>
if y1 = (97 : Int32) then (
jlet (jup I7 (rfC t0 0) 6 y3) (fun (I10 : jI) =>
some ((0 : Int32), I10)))
else (
some ((0 : Int32), I7))) (fun (k8 : jI → Option (Int32 × jI)) =>
if y1 = (115 : Int32) then (
jb2 (X4_sweepLevel (rfC t0 0) y3 I0) (fun (y12 : Int32) (I13 : jI) =>
k8 I13))
else (
k8 I0))))))
set_option maxRecDepth 20000 in
set_option maxHeartbeats 4000000 in
theorem W_X6_doPart {Y : jY} {Z : jZ} {Qf : Int32 × jI → State → Prop} (hz0 : Y.zf = false) (t0 : Nat) (ht0 : shC t0 = 7) (p0 : Int32) (I0 : jI) (L0 : jL) (hX : jOK Y Z RX6 cX6_doPart 4 "doPart" (some .int) 46 2208 0 0) (hQ : ∀ r : Int32 × jI, Qf r = jQ Y Z 0 0 (some (ji r.1)) NC shC rfC r.2 L0) : J Y Z 4 Qf (X6_doPart t0 p0 I0) 0 [(0, jr t0), (1, ji p0)] [] 0 0 NC shC rfC I0 L0 := by
  unfold X6_doPart
  refine J_aload_n (pc := 0) hX 0 rfl dX6_doPart_0 ?_
  refine g_X6_25 (pc := 1) hX ht0 dX6_doPart_1 ?_
  refine J_iload_n (pc := 4) hX 1 rfl dX6_doPart_4 ?_
  refine J_call1 (fun y1 e2 => ?_)
  refine jrun_i (pc := 5) (jRunV hX s_X6_146 (ci := 5) (T := TX5) (N := 8) (As := [ji p0]) (rest := []) rfl (by decide) (C_X5_letterOf Y hz0 (rfC t0 4) (fs_6_4 t0 ht0) p0 I0 L0 y1 e2) (fs_6_4 t0 ht0) rfl rfl ⟨by decide, by decide⟩ ⟨Nat.le_of_ble_eq_true rfl, Nat.le_of_ble_eq_true rfl⟩ (Nat.le_of_ble_eq_true rfl) dX6_doPart_5) ?_
  refine J_istore_n (pc := 8) hX (lo' := [(2, ji y1), (0, jr t0), (1, ji p0)]) (by decide) rfl dX6_doPart_8 ?_
  refine J_aload_n (pc := 9) hX 1 rfl dX6_doPart_9 ?_
  refine g_X6_25 (pc := 10) hX ht0 dX6_doPart_10 ?_
  refine J_iload_n (pc := 13) hX 2 rfl dX6_doPart_13 ?_
  refine J_call1 (fun y3 e4 => ?_)
  refine jrun_i (pc := 14) (jRunV hX s_X6_149 (ci := 5) (T := TX5) (N := 8) (As := [ji p0]) (rest := []) rfl (by decide) (C_X5_numberOf Y hz0 (rfC t0 4) (fs_6_4 t0 ht0) p0 I0 L0 y3 e4) (fs_6_4 t0 ht0) rfl rfl ⟨by decide, by decide⟩ ⟨Nat.le_of_ble_eq_true rfl, Nat.le_of_ble_eq_true rfl⟩ (Nat.le_of_ble_eq_true rfl) dX6_doPart_14) ?_
  refine J_istore_n (pc := 17) hX (lo' := [(3, ji y3), (2, ji y1), (0, jr t0), (1, ji p0)]) (by decide) rfl dX6_doPart_17 ?_
  refine J_iload_n (pc := 18) hX 1 rfl dX6_doPart_18 ?_
  refine J_bipush (pc := 19) hX (v := (114 : Int32)) (by decide) dX6_doPart_19 ?_
  refine J_icmp_ne (pc := 21) hX (tgt := 35) (by decide) dX6_doPart_21 (fun h5 => ?_) (fun h5 => ?_)
  · refine J_iload_n (pc := 35) hX 1 rfl dX6_doPart_35 ?_
    refine J_bipush (pc := 36) hX (v := (119 : Int32)) (by decide) dX6_doPart_36 ?_
    refine J_icmp_ne (pc := 38) hX (tgt := 59) (by decide) dX6_doPart_38 (fun h6 => ?_) (fun h6 => ?_)
    · refine J_iload_n (pc := 59) hX 1 rfl dX6_doPart_59 ?_
      refine J_bipush (pc := 60) hX (v := (115 : Int32)) (by decide) dX6_doPart_60 ?_
      refine J_join (fun (k8 : jI → Option (Int32 × jI)) => ∀ (I7 : jI), J Y Z 4 Qf (k8 I7) 74 [(0, jr t0), (2, ji y1), (3, ji y3)] [] 0 0 NC shC rfC I7 L0) ?_ (fun k8 hk8 => ?_)
      · intro I7
        try dsimp only
        refine J_iload_n (pc := 74) hX 1 rfl dX6_doPart_74 ?_
        refine J_bipush (pc := 75) hX (v := (97 : Int32)) (by decide) dX6_doPart_75 ?_
        refine J_icmp_ne (pc := 77) hX (tgt := 88) (by decide) dX6_doPart_77 (fun h9 => ?_) (fun h9 => ?_)
        · refine J_iconst (pc := 88) hX (v := (0 : Int32)) (by decide) dX6_doPart_88 ?_
          exact J_iret (pc := 89) hX (hQ _) dX6_doPart_89
        · refine J_aload_n (pc := 80) hX 0 rfl dX6_doPart_80 ?_
          refine g_X6_10 (pc := 81) hX ht0 dX6_doPart_81 ?_
          refine J_iload_n (pc := 84) hX 2 rfl dX6_doPart_84 ?_
          refine p_X6_162 (pc := 85) hX (fs_6_0 t0 ht0) dX6_doPart_85 (fun I10 => ?_)
          refine J_iconst (pc := 88) hX (v := (0 : Int32)) (by decide) dX6_doPart_88 ?_
          exact J_iret (pc := 89) hX (hQ _) dX6_doPart_89
      refine J_icmp_ne (pc := 62) hX (tgt := 74) (by decide) dX6_doPart_62 (fun h11 => ?_) (fun h11 => ?_)
      · refine J_sub [2, 1, 0] rfl ?_
        exact hk8 I0
      · refine J_aload_n (pc := 65) hX 2 rfl dX6_doPart_65 ?_
        refine g_X6_10 (pc := 66) hX ht0 dX6_doPart_66 ?_
        refine J_iload_n (pc := 69) hX 0 rfl dX6_doPart_69 ?_
        refine J_call2 (fun y12 I13 e14 => ?_)
        refine jrun_i (pc := 70) (jRunV hX s_X6_159 (ci := 4) (T := TX4) (N := 18) (As := [ji y3]) (rest := []) rfl (by decide) (C_X4_sweepLevel Y hz0 (rfC t0 0) (fs_6_0 t0 ht0) y3 I0 L0 y12 I13 e14) (fs_6_0 t0 ht0) rfl rfl ⟨by decide, by decide⟩ ⟨Nat.le_of_ble_eq_true rfl, Nat.le_of_ble_eq_true rfl⟩ (Nat.le_of_ble_eq_true rfl) dX6_doPart_70) ?_
        refine J_pop (pc := 73) hX rfl dX6_doPart_73 ?_
        refine J_sub [2, 1, 0] rfl ?_
        exact hk8 I13
    · refine J_aload_n (pc := 41) hX 2 rfl dX6_doPart_41 ?_
      refine g_X6_10 (pc := 42) hX ht0 dX6_doPart_42 ?_
      refine J_iload_n (pc := 45) hX 0 rfl dX6_doPart_45 ?_
      refine J_iconst (pc := 46) hX (v := (1 : Int32)) (by decide) dX6_doPart_46 ?_
      refine J_aload_n (pc := 47) hX 2 rfl dX6_doPart_47 ?_
      refine g_X6_25 (pc := 48) hX ht0 dX6_doPart_48 ?_
      refine J_iload_n (pc := 51) hX 3 rfl dX6_doPart_51 ?_
      refine J_call1 (fun y15 e16 => ?_)
      refine jrun_i (pc := 52) (jRunV hX s_X6_156 (ci := 5) (T := TX5) (N := 8) (As := [ji p0]) (rest := [ji (1 : Int32), ji y3, jr (rfC t0 0)]) rfl (by decide) (C_X5_valueOf Y hz0 (rfC t0 4) (fs_6_4 t0 ht0) p0 I0 L0 y15 e16) (fs_6_4 t0 ht0) rfl rfl ⟨by decide, by decide⟩ ⟨Nat.le_of_ble_eq_true rfl, Nat.le_of_ble_eq_true rfl⟩ (Nat.le_of_ble_eq_true rfl) dX6_doPart_52) ?_
      refine J_call2 (fun y17 I18 e19 => ?_)
      refine jrun_i (pc := 55) (jRunV hX s_X6_152 (ci := 4) (T := TX4) (N := 18) (As := [ji y3, ji (1 : Int32), ji y15]) (rest := []) rfl (by decide) (C_X4_access Y hz0 (rfC t0 0) (fs_6_0 t0 ht0) y3 (1 : Int32) y15 I0 L0 y17 I18 e19) (fs_6_0 t0 ht0) rfl rfl ⟨by decide, by decide⟩ ⟨Nat.le_of_ble_eq_true rfl, Nat.le_of_ble_eq_true rfl⟩ (Nat.le_of_ble_eq_true rfl) dX6_doPart_55) ?_
      exact J_iret (pc := 58) hX (hQ _) dX6_doPart_58
  · refine J_aload_n (pc := 24) hX 2 rfl dX6_doPart_24 ?_
    refine g_X6_10 (pc := 25) hX ht0 dX6_doPart_25 ?_
    refine J_iload_n (pc := 28) hX 0 rfl dX6_doPart_28 ?_
    refine J_iconst (pc := 29) hX (v := (0 : Int32)) (by decide) dX6_doPart_29 ?_
    refine J_iconst (pc := 30) hX (v := (0 : Int32)) (by decide) dX6_doPart_30 ?_
    refine J_call2 (fun y20 I21 e22 => ?_)
    refine jrun_i (pc := 31) (jRunV hX s_X6_152 (ci := 4) (T := TX4) (N := 18) (As := [ji y3, ji (0 : Int32), ji (0 : Int32)]) (rest := []) rfl (by decide) (C_X4_access Y hz0 (rfC t0 0) (fs_6_0 t0 ht0) y3 (0 : Int32) (0 : Int32) I0 L0 y20 I21 e22) (fs_6_0 t0 ht0) rfl rfl ⟨by decide, by decide⟩ ⟨Nat.le_of_ble_eq_true rfl, Nat.le_of_ble_eq_true rfl⟩ (Nat.le_of_ble_eq_true rfl) dX6_doPart_31) ?_
    exact J_iret (pc := 34) hX (hQ _) dX6_doPart_34
theorem C_X6_doPart (Y : jY) (hz0 : Y.zf = false) (t0 : Nat) (ht0 : shC t0 = 7) (p0 : Int32) (I0 : jI) (L0 : jL) (r : Int32) (I1 : jI) (h : X6_doPart t0 p0 I0 = some (r, I1)) : jMet Y yX6_doPart cX6_doPart 4 (some .int) 46 2208 0 0 [jr t0, ji p0] NC shC rfC I0 L0 (some (ji r)) NC shC rfC I1 L0 :=
  jmet_of _ _ h (fun Z r => jQ Y Z 0 0 (some (ji r.1)) NC shC rfC r.2 L0) (fun _ => rfl) (by decide) (Nat.le_of_ble_eq_true rfl) (fun Z hX => W_X6_doPart hz0 t0 ht0 p0 I0 L0 hX (fun _ => rfl))
def X6_traffic_F1 (t0 : Nat) (g9 : Int32 → Int32 → jI → Option (Int32 × jI)) : Int32 → Int32 → jI → Option (Int32 × jI) := fun (v6 : Int32) (v7 : Int32) (I8 : jI) =>
if (I8 (rfC t0 4) 1) ≤ v7 then (
some (v6, I8))
else (
jb2 (X6_doPart t0 v7 I8) (fun (y11 : Int32) (I12 : jI) =>
jlet ((v6 + y11)) (fun (y14 : Int32) =>
g9 y14 (v7 + (1 : Int32)) I12)))
def X6_traffic (t0 : Nat) (I0 : jI) : Option (Int32 × jI) :=
jb2 (X5_findFault (rfC t0 4) (I0 (rfC t0 0) 1) I0) (fun (y1 : Int32) (I2 : jI) =>
jlet (jup I2 (rfC t0 4) 0 (0 : Int32)) (fun (I4 : jI) =>
if y1 = (-1 : Int32) then (
jfx (X6_traffic_F1 t0) (fun _ _ _ => none) 1000 (0 : Int32) (0 : Int32) I4)
else (
jb2 (X6_refuse t0 (-52 : Int32) I4) (fun (y15 : Int32) (I16 : jI) =>
some (((-800 : Int32) - y1), I16)))))
set_option maxRecDepth 20000 in
set_option maxHeartbeats 4000000 in
theorem W_X6_traffic {Y : jY} {Z : jZ} {Qf : Int32 × jI → State → Prop} (hz0 : Y.zf = false) (t0 : Nat) (ht0 : shC t0 = 7) (I0 : jI) (L0 : jL) (hX : jOK Y Z RX6 cX6_traffic 4 "traffic" (some .int) 47 2231 0 0) (hQ : ∀ r : Int32 × jI, Qf r = jQ Y Z 0 0 (some (ji r.1)) NC shC rfC r.2 L0) : J Y Z 4 Qf (X6_traffic t0 I0) 0 [(0, jr t0)] [] 0 0 NC shC rfC I0 L0 := by
  unfold X6_traffic
  refine J_aload_n (pc := 0) hX 0 rfl dX6_traffic_0 ?_
  refine g_X6_25 (pc := 1) hX ht0 dX6_traffic_1 ?_
  refine J_aload_n (pc := 4) hX 0 rfl dX6_traffic_4 ?_
  refine g_X6_10 (pc := 5) hX ht0 dX6_traffic_5 ?_
  refine g_X6_103 (pc := 8) hX (fs_6_0 t0 ht0) dX6_traffic_8 ?_
  refine J_call2 (fun y1 I2 e3 => ?_)
  refine jrun_i (pc := 11) (jRunV hX s_X6_137 (ci := 5) (T := TX5) (N := 8) (As := [ji (I0 (rfC t0 0) 1)]) (rest := []) rfl (by decide) (C_X5_findFault Y hz0 (rfC t0 4) (fs_6_4 t0 ht0) (I0 (rfC t0 0) 1) I0 L0 y1 I2 e3) (fs_6_4 t0 ht0) rfl rfl ⟨by decide, by decide⟩ ⟨Nat.le_of_ble_eq_true rfl, Nat.le_of_ble_eq_true rfl⟩ (Nat.le_of_ble_eq_true rfl) dX6_traffic_11) ?_
  refine J_istore_n (pc := 14) hX (lo' := [(1, ji y1), (0, jr t0)]) (by decide) rfl dX6_traffic_14 ?_
  refine J_aload_n (pc := 15) hX 1 rfl dX6_traffic_15 ?_
  refine g_X6_25 (pc := 16) hX ht0 dX6_traffic_16 ?_
  refine J_iconst (pc := 19) hX (v := (0 : Int32)) (by decide) dX6_traffic_19 ?_
  refine p_X6_134 (pc := 20) hX (fs_6_4 t0 ht0) dX6_traffic_20 (fun I4 => ?_)
  refine J_iload_n (pc := 23) hX 0 rfl dX6_traffic_23 ?_
  refine J_iconst (pc := 24) hX (v := (-1 : Int32)) (by decide) dX6_traffic_24 ?_
  refine J_icmp_eq (pc := 25) hX (tgt := 41) (by decide) dX6_traffic_25 (fun h5 => ?_) (fun h5 => ?_)
  · refine J_iconst (pc := 41) hX (v := (0 : Int32)) (by decide) dX6_traffic_41 ?_
    refine J_istore_n (pc := 42) hX (lo' := [(2, ji (0 : Int32)), (1, ji y1), (0, jr t0)]) (by decide) rfl dX6_traffic_42 ?_
    refine J_iconst (pc := 43) hX (v := (0 : Int32)) (by decide) dX6_traffic_43 ?_
    refine J_istore_n (pc := 44) hX (lo' := [(3, ji (0 : Int32)), (2, ji (0 : Int32)), (1, ji y1), (0, jr t0)]) (by decide) rfl dX6_traffic_44 ?_
    have lhg9 : ∀ mq : Nat, ∀ (v6 : Int32) (v7 : Int32) (I8 : jI), J Y Z 4 Qf (jfx (X6_traffic_F1 t0) (fun _ _ _ => none) mq v6 v7 I8) 45 [(0, jr t0), (2, ji v6), (3, ji v7)] [] 0 0 NC shC rfC I8 L0 := by
      intro mq
      refine jfx_J (fun (_ : Nat) (g9 : Int32 → Int32 → jI → Option (Int32 × jI)) => ∀ (v6 : Int32) (v7 : Int32) (I8 : jI), J Y Z 4 Qf (g9 v6 v7 I8) 45 [(0, jr t0), (2, ji v6), (3, ji v7)] [] 0 0 NC shC rfC I8 L0) ?_ (fun _ g9 hg9 => ?_) mq
      · intro v6 v7 I8
        exact J_none
      intro v6 v7 I8
      unfold X6_traffic_F1
      try dsimp only
      refine J_iload_n (pc := 45) hX 2 rfl dX6_traffic_45 ?_
      refine J_aload_n (pc := 46) hX 0 rfl dX6_traffic_46 ?_
      refine g_X6_25 (pc := 47) hX ht0 dX6_traffic_47 ?_
      refine g_X6_140 (pc := 50) hX (fs_6_4 t0 ht0) dX6_traffic_50 ?_
      refine J_icmp_ge (pc := 53) hX (tgt := 70) (by decide) dX6_traffic_53 (fun h10 => ?_) (fun h10 => ?_)
      · refine J_iload_n (pc := 70) hX 1 rfl dX6_traffic_70 ?_
        exact J_iret (pc := 71) hX (hQ _) dX6_traffic_71
      · refine J_iload_n (pc := 56) hX 1 rfl dX6_traffic_56 ?_
        refine J_aload_n (pc := 57) hX 0 rfl dX6_traffic_57 ?_
        refine J_iload_n (pc := 58) hX 2 rfl dX6_traffic_58 ?_
        refine J_call2 (fun y11 I12 e13 => ?_)
        refine jrun_i (pc := 59) (jRunV hX s_X6_143 (ci := 6) (T := TX6) (N := 8) (As := [ji v7]) (rest := [ji v6]) rfl (by decide) (C_X6_doPart Y hz0 t0 ht0 v7 I8 L0 y11 I12 e13) ht0 rfl rfl ⟨by decide, by decide⟩ ⟨Nat.le_of_ble_eq_true rfl, Nat.le_of_ble_eq_true rfl⟩ (Nat.le_of_ble_eq_true rfl) dX6_traffic_59) ?_
        refine J_iadd (pc := 62) hX dX6_traffic_62 ?_
        refine J_leti (fun y14 => ?_)
        refine J_istore_n (pc := 63) hX (lo' := [(2, ji y14), (0, jr t0), (3, ji v7)]) (by decide) rfl dX6_traffic_63 ?_
        refine J_iinc (pc := 64) hX (v := (v7 + (1 : Int32))) (lo' := [(3, ji (v7 + (1 : Int32))), (2, ji y14), (0, jr t0)]) 2 rfl (by rfl) (by decide) rfl dX6_traffic_64 ?_
        refine J_goto (pc := 67) hX (tgt := 45) (by decide) dX6_traffic_67 ?_
        refine J_sub [2, 1, 0] rfl ?_
        exact hg9 y14 (v7 + (1 : Int32)) I12
    refine J_sub [3, 1, 0] rfl ?_
    exact lhg9 1000 (0 : Int32) (0 : Int32) I4
  · refine J_aload_n (pc := 28) hX 1 rfl dX6_traffic_28 ?_
    refine J_bipush (pc := 29) hX (v := (-52 : Int32)) (by decide) dX6_traffic_29 ?_
    refine J_call2 (fun y15 I16 e17 => ?_)
    refine jrun_i (pc := 31) (jRunV hX s_X6_51 (ci := 6) (T := TX6) (N := 8) (As := [ji (-52 : Int32)]) (rest := []) rfl (by decide) (C_X6_refuse Y hz0 t0 ht0 (-52 : Int32) I4 L0 y15 I16 e17) ht0 rfl rfl ⟨by decide, by decide⟩ ⟨Nat.le_of_ble_eq_true rfl, Nat.le_of_ble_eq_true rfl⟩ (Nat.le_of_ble_eq_true rfl) dX6_traffic_31) ?_
    refine J_pop (pc := 34) hX rfl dX6_traffic_34 ?_
    refine J_sipush (pc := 35) hX (v := (-800 : Int32)) (by decide) dX6_traffic_35 ?_
    refine J_iload_n (pc := 38) hX 0 rfl dX6_traffic_38 ?_
    refine J_isub (pc := 39) hX dX6_traffic_39 ?_
    exact J_iret (pc := 40) hX (hQ _) dX6_traffic_40
theorem C_X6_traffic (Y : jY) (hz0 : Y.zf = false) (t0 : Nat) (ht0 : shC t0 = 7) (I0 : jI) (L0 : jL) (r : Int32) (I1 : jI) (h : X6_traffic t0 I0 = some (r, I1)) : jMet Y yX6_traffic cX6_traffic 4 (some .int) 47 2231 0 0 [jr t0] NC shC rfC I0 L0 (some (ji r)) NC shC rfC I1 L0 :=
  jmet_of _ _ h (fun Z r => jQ Y Z 0 0 (some (ji r.1)) NC shC rfC r.2 L0) (fun _ => rfl) (by decide) (Nat.le_of_ble_eq_true rfl) (fun Z hX => W_X6_traffic hz0 t0 ht0 I0 L0 hX (fun _ => rfl))
def X6_level (t0 : Nat) (p0 : Int32) (p1 : Int32) (p2 : Int32) (I0 : jI) : Option (Int32 × jI) :=
(X6_isWithin p0 (1 : Int32) (16 : Int32)).bind (fun (y1 : Int32) =>
if y1 = 0 then (
jb2 (X6_refuse t0 (-52 : Int32) I0) (fun (y4 : Int32) (I5 : jI) =>
some (y4, I5)))
else (
(X6_isWithin p1 (0 : Int32) (99 : Int32)).bind (fun (y7 : Int32) =>
if y7 = 0 then (
jb2 (X6_refuse t0 (-52 : Int32) I0) (fun (y10 : Int32) (I11 : jI) =>
some (y10, I11)))
else (
(X6_isWithin p2 (3 : Int32) (8 : Int32)).bind (fun (y13 : Int32) =>
if y13 = 0 then (
jb2 (X6_refuse t0 (-52 : Int32) I0) (fun (y29 : Int32) (I30 : jI) =>
some (y29, I30)))
else (
if (I0 (rfC t0 0) 1) < (4 : Int32) then (
(X4_sweepOut (rfC t0 0) I0).bind (fun (I17 : jI) =>
jlet (jup I17 (rfC t0 0) 1 ((I17 (rfC t0 0) 1) + (1 : Int32))) (fun (I19 : jI) =>
(X4_levelAt (rfC t0 0) (I19 (rfC t0 0) 1) I19).bind (fun (x20 : Nat) =>
if x20 = 0 then (
some ((I19 (rfC t0 0) 1), I19))
else (
(X2_begin x20 p0 p1 p2 I19).bind (fun (I24 : jI) =>
some ((I24 (rfC t0 0) 1), I24)))))))
else (
jb2 (X6_refuse t0 (-56 : Int32) I0) (fun (y26 : Int32) (I27 : jI) =>
some (y26, I27)))))))))
set_option maxRecDepth 20000 in
set_option maxHeartbeats 4000000 in
theorem W_X6_level {Y : jY} {Z : jZ} {Qf : Int32 × jI → State → Prop} (hz0 : Y.zf = false) (t0 : Nat) (ht0 : shC t0 = 7) (p0 : Int32) (p1 : Int32) (p2 : Int32) (I0 : jI) (L0 : jL) (hX : jOK Y Z RX6 cX6_level 5 "level" (some .int) 5 175 0 0) (hQ : ∀ r : Int32 × jI, Qf r = jQ Y Z 0 0 (some (ji r.1)) NC shC rfC r.2 L0) : J Y Z 5 Qf (X6_level t0 p0 p1 p2 I0) 0 [(0, jr t0), (1, ji p0), (2, ji p1), (3, ji p2)] [] 0 0 NC shC rfC I0 L0 := by
  unfold X6_level
  refine J_iload_n (pc := 0) hX 1 rfl dX6_level_0 ?_
  refine J_iconst (pc := 1) hX (v := (1 : Int32)) (by decide) dX6_level_1 ?_
  refine J_bipush (pc := 2) hX (v := (16 : Int32)) (by decide) dX6_level_2 ?_
  refine J_call1 (fun y1 e2 => ?_)
  refine jrun_i (pc := 4) (jRunS hX s_X6_47 (As := [ji p0, ji (1 : Int32), ji (16 : Int32)]) (rest := []) (C_X6_isWithin Y hz0 p0 (1 : Int32) (16 : Int32) I0 L0 y1 e2) rfl rfl ⟨by decide, by decide⟩ ⟨Nat.le_of_ble_eq_true rfl, Nat.le_of_ble_eq_true rfl⟩ (Nat.le_of_ble_eq_true rfl) dX6_level_4) ?_
  refine J_if_eq (pc := 7) hX (tgt := 30) (by decide) dX6_level_7 (fun h3 => ?_) (fun h3 => ?_)
  · refine J_aload_n (pc := 30) hX 0 rfl dX6_level_30 ?_
    refine J_bipush (pc := 31) hX (v := (-52 : Int32)) (by decide) dX6_level_31 ?_
    refine J_call2 (fun y4 I5 e6 => ?_)
    refine jrun_i (pc := 33) (jRunV hX s_X6_51 (ci := 6) (T := TX6) (N := 8) (As := [ji (-52 : Int32)]) (rest := []) rfl (by decide) (C_X6_refuse Y hz0 t0 ht0 (-52 : Int32) I0 L0 y4 I5 e6) ht0 rfl rfl ⟨by decide, by decide⟩ ⟨Nat.le_of_ble_eq_true rfl, Nat.le_of_ble_eq_true rfl⟩ (Nat.le_of_ble_eq_true rfl) dX6_level_33) ?_
    exact J_iret (pc := 36) hX (hQ _) dX6_level_36
  · refine J_iload_n (pc := 10) hX 2 rfl dX6_level_10 ?_
    refine J_iconst (pc := 11) hX (v := (0 : Int32)) (by decide) dX6_level_11 ?_
    refine J_bipush (pc := 12) hX (v := (99 : Int32)) (by decide) dX6_level_12 ?_
    refine J_call1 (fun y7 e8 => ?_)
    refine jrun_i (pc := 14) (jRunS hX s_X6_47 (As := [ji p1, ji (0 : Int32), ji (99 : Int32)]) (rest := []) (C_X6_isWithin Y hz0 p1 (0 : Int32) (99 : Int32) I0 L0 y7 e8) rfl rfl ⟨by decide, by decide⟩ ⟨Nat.le_of_ble_eq_true rfl, Nat.le_of_ble_eq_true rfl⟩ (Nat.le_of_ble_eq_true rfl) dX6_level_14) ?_
    refine J_if_eq (pc := 17) hX (tgt := 30) (by decide) dX6_level_17 (fun h9 => ?_) (fun h9 => ?_)
    · refine J_aload_n (pc := 30) hX 0 rfl dX6_level_30 ?_
      refine J_bipush (pc := 31) hX (v := (-52 : Int32)) (by decide) dX6_level_31 ?_
      refine J_call2 (fun y10 I11 e12 => ?_)
      refine jrun_i (pc := 33) (jRunV hX s_X6_51 (ci := 6) (T := TX6) (N := 8) (As := [ji (-52 : Int32)]) (rest := []) rfl (by decide) (C_X6_refuse Y hz0 t0 ht0 (-52 : Int32) I0 L0 y10 I11 e12) ht0 rfl rfl ⟨by decide, by decide⟩ ⟨Nat.le_of_ble_eq_true rfl, Nat.le_of_ble_eq_true rfl⟩ (Nat.le_of_ble_eq_true rfl) dX6_level_33) ?_
      exact J_iret (pc := 36) hX (hQ _) dX6_level_36
    · refine J_iload_n (pc := 20) hX 3 rfl dX6_level_20 ?_
      refine J_iconst (pc := 21) hX (v := (3 : Int32)) (by decide) dX6_level_21 ?_
      refine J_bipush (pc := 22) hX (v := (8 : Int32)) (by decide) dX6_level_22 ?_
      refine J_call1 (fun y13 e14 => ?_)
      refine jrun_i (pc := 24) (jRunS hX s_X6_47 (As := [ji p2, ji (3 : Int32), ji (8 : Int32)]) (rest := []) (C_X6_isWithin Y hz0 p2 (3 : Int32) (8 : Int32) I0 L0 y13 e14) rfl rfl ⟨by decide, by decide⟩ ⟨Nat.le_of_ble_eq_true rfl, Nat.le_of_ble_eq_true rfl⟩ (Nat.le_of_ble_eq_true rfl) dX6_level_24) ?_
      refine J_if_ne (pc := 27) hX (tgt := 37) (by decide) dX6_level_27 (fun h15 => ?_) (fun h15 => ?_)
      · refine J_aload_n (pc := 37) hX 0 rfl dX6_level_37 ?_
        refine g_X6_10 (pc := 38) hX ht0 dX6_level_38 ?_
        refine g_X6_103 (pc := 41) hX (fs_6_0 t0 ht0) dX6_level_41 ?_
        refine J_iconst (pc := 44) hX (v := (4 : Int32)) (by decide) dX6_level_44 ?_
        refine J_icmp_lt (pc := 45) hX (tgt := 55) (by decide) dX6_level_45 (fun h16 => ?_) (fun h16 => ?_)
        · refine J_aload_n (pc := 55) hX 0 rfl dX6_level_55 ?_
          refine g_X6_10 (pc := 56) hX ht0 dX6_level_56 ?_
          refine J_call1 (fun I17 e18 => ?_)
          refine jrun_v (pc := 59) (jRunV hX s_X6_165 (ci := 4) (T := TX4) (N := 18) (As := []) (rest := []) rfl (by decide) (C_X4_sweepOut Y hz0 (rfC t0 0) (fs_6_0 t0 ht0) I0 L0 I17 e18) (fs_6_0 t0 ht0) rfl rfl ⟨by decide, by decide⟩ ⟨Nat.le_of_ble_eq_true rfl, Nat.le_of_ble_eq_true rfl⟩ (Nat.le_of_ble_eq_true rfl) dX6_level_59) ?_
          refine J_aload_n (pc := 62) hX 0 rfl dX6_level_62 ?_
          refine g_X6_10 (pc := 63) hX ht0 dX6_level_63 ?_
          refine J_dup (pc := 66) hX rfl dX6_level_66 ?_
          refine g_X6_103 (pc := 67) hX (fs_6_0 t0 ht0) dX6_level_67 ?_
          refine J_iconst (pc := 70) hX (v := (1 : Int32)) (by decide) dX6_level_70 ?_
          refine J_iadd (pc := 71) hX dX6_level_71 ?_
          refine p_X6_103 (pc := 72) hX (fs_6_0 t0 ht0) dX6_level_72 (fun I19 => ?_)
          refine J_aload_n (pc := 75) hX 0 rfl dX6_level_75 ?_
          refine g_X6_10 (pc := 76) hX ht0 dX6_level_76 ?_
          refine J_aload_n (pc := 79) hX 0 rfl dX6_level_79 ?_
          refine g_X6_10 (pc := 80) hX ht0 dX6_level_80 ?_
          refine g_X6_103 (pc := 83) hX (fs_6_0 t0 ht0) dX6_level_83 ?_
          refine J_call1 (fun x20 e21 => ?_)
          refine jrun_r (pc := 86) (jRunV hX s_X6_113 (ci := 4) (T := TX4) (N := 18) (As := [ji (I19 (rfC t0 0) 1)]) (rest := []) rfl (by decide) (C_X4_levelAt Y hz0 (rfC t0 0) (fs_6_0 t0 ht0) (I19 (rfC t0 0) 1) I19 L0 x20 e21) (fs_6_0 t0 ht0) rfl rfl ⟨by decide, by decide⟩ ⟨Nat.le_of_ble_eq_true rfl, Nat.le_of_ble_eq_true rfl⟩ (Nat.le_of_ble_eq_true rfl) dX6_level_86) ?_
          have t22 := T_X4_levelAt (rfC t0 0) (fs_6_0 t0 ht0) (I19 (rfC t0 0) 1) I19 e21
          refine J_astore (pc := 89) hX (lo' := [(4, jr x20), (0, jr t0), (1, ji p0), (2, ji p1), (3, ji p2)]) (by decide) rfl dX6_level_89 ?_
          refine J_aload (pc := 91) hX 0 rfl dX6_level_91 ?_
          refine J_ifnull (pc := 93) hX (tgt := 104) (by decide) dX6_level_93 (fun h23 => ?_) (fun h23 => ?_)
          · refine J_aload_n (pc := 104) hX 1 rfl dX6_level_104 ?_
            refine g_X6_10 (pc := 105) hX ht0 dX6_level_105 ?_
            refine g_X6_103 (pc := 108) hX (fs_6_0 t0 ht0) dX6_level_108 ?_
            exact J_iret (pc := 111) hX (hQ _) dX6_level_111
          · refine J_aload (pc := 96) hX 0 rfl dX6_level_96 ?_
            refine J_iload_n (pc := 98) hX 2 rfl dX6_level_98 ?_
            refine J_iload_n (pc := 99) hX 3 rfl dX6_level_99 ?_
            refine J_iload_n (pc := 100) hX 4 rfl dX6_level_100 ?_
            refine J_call1 (fun I24 e25 => ?_)
            refine jrun_v (pc := 101) (jRunV hX s_X6_168 (ci := 2) (T := TX2) (N := 19) (As := [ji p0, ji p1, ji p2]) (rest := []) rfl (by decide) (C_X2_begin Y hz0 x20 (t22.resolve_left h23) p0 p1 p2 I19 L0 I24 e25) (t22.resolve_left h23) rfl rfl ⟨by decide, by decide⟩ ⟨Nat.le_of_ble_eq_true rfl, Nat.le_of_ble_eq_true rfl⟩ (Nat.le_of_ble_eq_true rfl) dX6_level_101) ?_
            refine J_aload_n (pc := 104) hX 1 rfl dX6_level_104 ?_
            refine g_X6_10 (pc := 105) hX ht0 dX6_level_105 ?_
            refine g_X6_103 (pc := 108) hX (fs_6_0 t0 ht0) dX6_level_108 ?_
            exact J_iret (pc := 111) hX (hQ _) dX6_level_111
        · refine J_aload_n (pc := 48) hX 0 rfl dX6_level_48 ?_
          refine J_bipush (pc := 49) hX (v := (-56 : Int32)) (by decide) dX6_level_49 ?_
          refine J_call2 (fun y26 I27 e28 => ?_)
          refine jrun_i (pc := 51) (jRunV hX s_X6_51 (ci := 6) (T := TX6) (N := 8) (As := [ji (-56 : Int32)]) (rest := []) rfl (by decide) (C_X6_refuse Y hz0 t0 ht0 (-56 : Int32) I0 L0 y26 I27 e28) ht0 rfl rfl ⟨by decide, by decide⟩ ⟨Nat.le_of_ble_eq_true rfl, Nat.le_of_ble_eq_true rfl⟩ (Nat.le_of_ble_eq_true rfl) dX6_level_51) ?_
          exact J_iret (pc := 54) hX (hQ _) dX6_level_54
      · refine J_aload_n (pc := 30) hX 0 rfl dX6_level_30 ?_
        refine J_bipush (pc := 31) hX (v := (-52 : Int32)) (by decide) dX6_level_31 ?_
        refine J_call2 (fun y29 I30 e31 => ?_)
        refine jrun_i (pc := 33) (jRunV hX s_X6_51 (ci := 6) (T := TX6) (N := 8) (As := [ji (-52 : Int32)]) (rest := []) rfl (by decide) (C_X6_refuse Y hz0 t0 ht0 (-52 : Int32) I0 L0 y29 I30 e31) ht0 rfl rfl ⟨by decide, by decide⟩ ⟨Nat.le_of_ble_eq_true rfl, Nat.le_of_ble_eq_true rfl⟩ (Nat.le_of_ble_eq_true rfl) dX6_level_33) ?_
        exact J_iret (pc := 36) hX (hQ _) dX6_level_36
theorem C_X6_level (Y : jY) (hz0 : Y.zf = false) (t0 : Nat) (ht0 : shC t0 = 7) (p0 : Int32) (p1 : Int32) (p2 : Int32) (I0 : jI) (L0 : jL) (r : Int32) (I1 : jI) (h : X6_level t0 p0 p1 p2 I0 = some (r, I1)) : jMet Y yX6_level cX6_level 5 (some .int) 5 175 0 0 [jr t0, ji p0, ji p1, ji p2] NC shC rfC I0 L0 (some (ji r)) NC shC rfC I1 L0 :=
  jmet_of _ _ h (fun Z r => jQ Y Z 0 0 (some (ji r.1)) NC shC rfC r.2 L0) (fun _ => rfl) (by decide) (Nat.le_of_ble_eq_true rfl) (fun Z hX => W_X6_level hz0 t0 ht0 p0 p1 p2 I0 L0 hX (fun _ => rfl))
def X6_forgetRules_F1 (t0 : Nat) (g3 : Int32 → jI → Option (jI)) : Int32 → jI → Option (jI) := fun (v1 : Int32) (I2 : jI) =>
if (8 : Int32) ≤ v1 then (
some I2)
else (
(X6_shelfAt t0 v1).bind (fun (x5 : Nat) =>
jlet (fun (I8 : jI) =>
g3 (v1 + (1 : Int32)) I8) (fun (k9 : jI → Option (jI)) =>
if x5 = 0 then (
k9 I2)
else (
if (I2 x5 1) ≤ (I2 (rfC t0 0) 1) then (
k9 I2)
else (
(X3_holdNothing x5 I2).bind (fun (I12 : jI) =>
k9 I12))))))
def X6_forgetRules (t0 : Nat) (I0 : jI) : Option (jI) :=
jfx (X6_forgetRules_F1 t0) (fun _ _ => none) 1000 (0 : Int32) I0
set_option maxRecDepth 20000 in
set_option maxHeartbeats 4000000 in
theorem W_X6_forgetRules {Y : jY} {Z : jZ} {Qf : jI → State → Prop} (hz0 : Y.zf = false) (t0 : Nat) (ht0 : shC t0 = 7) (I0 : jI) (L0 : jL) (hX : jOK Y Z RX6 cX6_forgetRules 3 "forgetRules" none 3 123 0 0) (hQ : ∀ r : jI, Qf r = jQ Y Z 0 0 none NC shC rfC r L0) : J Y Z 3 Qf (X6_forgetRules t0 I0) 0 [(0, jr t0)] [] 0 0 NC shC rfC I0 L0 := by
  unfold X6_forgetRules
  refine J_iconst (pc := 0) hX (v := (0 : Int32)) (by decide) dX6_forgetRules_0 ?_
  refine J_istore_n (pc := 1) hX (lo' := [(1, ji (0 : Int32)), (0, jr t0)]) (by decide) rfl dX6_forgetRules_1 ?_
  have lhg3 : ∀ mq : Nat, ∀ (v1 : Int32) (I2 : jI), J Y Z 3 Qf (jfx (X6_forgetRules_F1 t0) (fun _ _ => none) mq v1 I2) 2 [(0, jr t0), (1, ji v1)] [] 0 0 NC shC rfC I2 L0 := by
    intro mq
    refine jfx_J (fun (_ : Nat) (g3 : Int32 → jI → Option (jI)) => ∀ (v1 : Int32) (I2 : jI), J Y Z 3 Qf (g3 v1 I2) 2 [(0, jr t0), (1, ji v1)] [] 0 0 NC shC rfC I2 L0) ?_ (fun _ g3 hg3 => ?_) mq
    · intro v1 I2
      exact J_none
    intro v1 I2
    unfold X6_forgetRules_F1
    try dsimp only
    refine J_iload_n (pc := 2) hX 1 rfl dX6_forgetRules_2 ?_
    refine J_bipush (pc := 3) hX (v := (8 : Int32)) (by decide) dX6_forgetRules_3 ?_
    refine J_icmp_ge (pc := 5) hX (tgt := 42) (by decide) dX6_forgetRules_5 (fun h4 => ?_) (fun h4 => ?_)
    · exact J_vret (pc := 42) hX (hQ _) dX6_forgetRules_42
    · refine J_aload_n (pc := 8) hX 0 rfl dX6_forgetRules_8 ?_
      refine J_iload_n (pc := 9) hX 1 rfl dX6_forgetRules_9 ?_
      refine J_call1 (fun x5 e6 => ?_)
      refine jrun_r (pc := 10) (jRunV hX s_X6_43 (ci := 6) (T := TX6) (N := 8) (As := [ji v1]) (rest := []) rfl (by decide) (C_X6_shelfAt Y hz0 t0 ht0 v1 I2 L0 x5 e6) ht0 rfl rfl ⟨by decide, by decide⟩ ⟨Nat.le_of_ble_eq_true rfl, Nat.le_of_ble_eq_true rfl⟩ (Nat.le_of_ble_eq_true rfl) dX6_forgetRules_10) ?_
      have t7 := T_X6_shelfAt t0 ht0 v1  e6
      refine J_astore_n (pc := 13) hX (lo' := [(2, jr x5), (0, jr t0), (1, ji v1)]) (by decide) rfl dX6_forgetRules_13 ?_
      refine J_aload_n (pc := 14) hX 0 rfl dX6_forgetRules_14 ?_
      refine J_join (fun (k9 : jI → Option (jI)) => ∀ (I8 : jI), J Y Z 3 Qf (k9 I8) 36 [(0, jr t0), (1, ji v1)] [] 0 0 NC shC rfC I8 L0) ?_ (fun k9 hk9 => ?_)
      · intro I8
        try dsimp only
        refine J_iinc (pc := 36) hX (v := (v1 + (1 : Int32))) (lo' := [(1, ji (v1 + (1 : Int32))), (0, jr t0)]) 1 rfl (by rfl) (by decide) rfl dX6_forgetRules_36 ?_
        refine J_goto (pc := 39) hX (tgt := 2) (by decide) dX6_forgetRules_39 ?_
        refine J_sub [1, 0] rfl ?_
        exact hg3 (v1 + (1 : Int32)) I8
      refine J_ifnull (pc := 15) hX (tgt := 36) (by decide) dX6_forgetRules_15 (fun h10 => ?_) (fun h10 => ?_)
      · refine J_sub [1, 2] rfl ?_
        exact hk9 I2
      · refine J_aload_n (pc := 18) hX 0 rfl dX6_forgetRules_18 ?_
        refine g_X6_100 (pc := 19) hX (t7.resolve_left h10) dX6_forgetRules_19 ?_
        refine J_aload_n (pc := 22) hX 1 rfl dX6_forgetRules_22 ?_
        refine g_X6_10 (pc := 23) hX ht0 dX6_forgetRules_23 ?_
        refine g_X6_103 (pc := 26) hX (fs_6_0 t0 ht0) dX6_forgetRules_26 ?_
        refine J_icmp_le (pc := 29) hX (tgt := 36) (by decide) dX6_forgetRules_29 (fun h11 => ?_) (fun h11 => ?_)
        · refine J_sub [1, 2] rfl ?_
          exact hk9 I2
        · refine J_aload_n (pc := 32) hX 0 rfl dX6_forgetRules_32 ?_
          refine J_call1 (fun I12 e13 => ?_)
          refine jrun_v (pc := 33) (jRunV hX s_X6_106 (ci := 3) (T := TX3) (N := 4) (As := []) (rest := []) rfl (by decide) (C_X3_holdNothing Y hz0 x5 (t7.resolve_left h10) I2 L0 I12 e13) (t7.resolve_left h10) rfl rfl ⟨by decide, by decide⟩ ⟨Nat.le_of_ble_eq_true rfl, Nat.le_of_ble_eq_true rfl⟩ (Nat.le_of_ble_eq_true rfl) dX6_forgetRules_33) ?_
          refine J_sub [1, 2] rfl ?_
          exact hk9 I12
  refine J_sub [1, 0] rfl ?_
  exact lhg3 1000 (0 : Int32) I0
theorem C_X6_forgetRules (Y : jY) (hz0 : Y.zf = false) (t0 : Nat) (ht0 : shC t0 = 7) (I0 : jI) (L0 : jL) (I1 : jI) (h : X6_forgetRules t0 I0 = some I1) : jMet Y yX6_forgetRules cX6_forgetRules 3 none 3 123 0 0 [jr t0] NC shC rfC I0 L0 none NC shC rfC I1 L0 :=
  jmet_of _ _ h (fun Z r => jQ Y Z 0 0 none NC shC rfC r L0) (fun _ => rfl) (by decide) (Nat.le_of_ble_eq_true rfl) (fun Z hX => W_X6_forgetRules hz0 t0 ht0 I0 L0 hX (fun _ => rfl))
def X6_drop (t0 : Nat) (I0 : jI) : Option (Int32 × jI) :=
if 0 < (I0 (rfC t0 0) 1) then (
(X4_sweepOut (rfC t0 0) I0).bind (fun (I2 : jI) =>
jlet (jup I2 (rfC t0 0) 1 ((I2 (rfC t0 0) 1) - (1 : Int32))) (fun (I4 : jI) =>
(X6_forgetRules t0 I4).bind (fun (I5 : jI) =>
some ((I5 (rfC t0 0) 1), I5)))))
else (
jb2 (X6_refuse t0 (-55 : Int32) I0) (fun (y7 : Int32) (I8 : jI) =>
some (y7, I8)))
set_option maxRecDepth 20000 in
set_option maxHeartbeats 4000000 in
theorem W_X6_drop {Y : jY} {Z : jZ} {Qf : Int32 × jI → State → Prop} (hz0 : Y.zf = false) (t0 : Nat) (ht0 : shC t0 = 7) (I0 : jI) (L0 : jL) (hX : jOK Y Z RX6 cX6_drop 1 "drop" (some .int) 5 175 0 0) (hQ : ∀ r : Int32 × jI, Qf r = jQ Y Z 0 0 (some (ji r.1)) NC shC rfC r.2 L0) : J Y Z 1 Qf (X6_drop t0 I0) 0 [(0, jr t0)] [] 0 0 NC shC rfC I0 L0 := by
  unfold X6_drop
  refine J_aload_n (pc := 0) hX 0 rfl dX6_drop_0 ?_
  refine g_X6_10 (pc := 1) hX ht0 dX6_drop_1 ?_
  refine g_X6_103 (pc := 4) hX (fs_6_0 t0 ht0) dX6_drop_4 ?_
  refine J_if_gt (pc := 7) hX (tgt := 17) (by decide) dX6_drop_7 (fun h1 => ?_) (fun h1 => ?_)
  · refine J_aload_n (pc := 17) hX 0 rfl dX6_drop_17 ?_
    refine g_X6_10 (pc := 18) hX ht0 dX6_drop_18 ?_
    refine J_call1 (fun I2 e3 => ?_)
    refine jrun_v (pc := 21) (jRunV hX s_X6_165 (ci := 4) (T := TX4) (N := 18) (As := []) (rest := []) rfl (by decide) (C_X4_sweepOut Y hz0 (rfC t0 0) (fs_6_0 t0 ht0) I0 L0 I2 e3) (fs_6_0 t0 ht0) rfl rfl ⟨by decide, by decide⟩ ⟨Nat.le_of_ble_eq_true rfl, Nat.le_of_ble_eq_true rfl⟩ (Nat.le_of_ble_eq_true rfl) dX6_drop_21) ?_
    refine J_aload_n (pc := 24) hX 0 rfl dX6_drop_24 ?_
    refine g_X6_10 (pc := 25) hX ht0 dX6_drop_25 ?_
    refine J_dup (pc := 28) hX rfl dX6_drop_28 ?_
    refine g_X6_103 (pc := 29) hX (fs_6_0 t0 ht0) dX6_drop_29 ?_
    refine J_iconst (pc := 32) hX (v := (1 : Int32)) (by decide) dX6_drop_32 ?_
    refine J_isub (pc := 33) hX dX6_drop_33 ?_
    refine p_X6_103 (pc := 34) hX (fs_6_0 t0 ht0) dX6_drop_34 (fun I4 => ?_)
    refine J_aload_n (pc := 37) hX 0 rfl dX6_drop_37 ?_
    refine J_call1 (fun I5 e6 => ?_)
    refine jrun_v (pc := 38) (jRunV hX s_X6_172 (ci := 6) (T := TX6) (N := 8) (As := []) (rest := []) rfl (by decide) (C_X6_forgetRules Y hz0 t0 ht0 I4 L0 I5 e6) ht0 rfl rfl ⟨by decide, by decide⟩ ⟨Nat.le_of_ble_eq_true rfl, Nat.le_of_ble_eq_true rfl⟩ (Nat.le_of_ble_eq_true rfl) dX6_drop_38) ?_
    refine J_aload_n (pc := 41) hX 0 rfl dX6_drop_41 ?_
    refine g_X6_10 (pc := 42) hX ht0 dX6_drop_42 ?_
    refine g_X6_103 (pc := 45) hX (fs_6_0 t0 ht0) dX6_drop_45 ?_
    exact J_iret (pc := 48) hX (hQ _) dX6_drop_48
  · refine J_aload_n (pc := 10) hX 0 rfl dX6_drop_10 ?_
    refine J_bipush (pc := 11) hX (v := (-55 : Int32)) (by decide) dX6_drop_11 ?_
    refine J_call2 (fun y7 I8 e9 => ?_)
    refine jrun_i (pc := 13) (jRunV hX s_X6_51 (ci := 6) (T := TX6) (N := 8) (As := [ji (-55 : Int32)]) (rest := []) rfl (by decide) (C_X6_refuse Y hz0 t0 ht0 (-55 : Int32) I0 L0 y7 I8 e9) ht0 rfl rfl ⟨by decide, by decide⟩ ⟨Nat.le_of_ble_eq_true rfl, Nat.le_of_ble_eq_true rfl⟩ (Nat.le_of_ble_eq_true rfl) dX6_drop_13) ?_
    exact J_iret (pc := 16) hX (hQ _) dX6_drop_16
theorem C_X6_drop (Y : jY) (hz0 : Y.zf = false) (t0 : Nat) (ht0 : shC t0 = 7) (I0 : jI) (L0 : jL) (r : Int32) (I1 : jI) (h : X6_drop t0 I0 = some (r, I1)) : jMet Y yX6_drop cX6_drop 1 (some .int) 5 175 0 0 [jr t0] NC shC rfC I0 L0 (some (ji r)) NC shC rfC I1 L0 :=
  jmet_of _ _ h (fun Z r => jQ Y Z 0 0 (some (ji r.1)) NC shC rfC r.2 L0) (fun _ => rfl) (by decide) (Nat.le_of_ble_eq_true rfl) (fun Z hX => W_X6_drop hz0 t0 ht0 I0 L0 hX (fun _ => rfl))
def X6_mode (t0 : Nat) (p0 : Int32) (p1 : Int32) (I0 : jI) : Option (Int32 × jI) :=
(X6_isWithin p0 (0 : Int32) (1 : Int32)).bind (fun (y1 : Int32) =>
if y1 = 0 then (
jb2 (X6_refuse t0 (-52 : Int32) I0) (fun (y4 : Int32) (I5 : jI) =>
some (y4, I5)))
else (
jlet (if p0 = 0 then (2 : Int32) else (1 : Int32)) (fun (y8 : Int32) =>
(X6_isWithin p1 (0 : Int32) y8).bind (fun (y9 : Int32) =>
if y9 = 0 then (
jb2 (X6_refuse t0 (-52 : Int32) I0) (fun (y19 : Int32) (I20 : jI) =>
some (y19, I20)))
else (
(X4_sweepOut (rfC t0 0) I0).bind (fun (I12 : jI) =>
if p0 = 0 then (
jlet ((I12 (rfC t0 0) 4)) (fun (y17 : Int32) =>
jlet (jup I12 (rfC t0 0) 4 p1) (fun (I18 : jI) =>
some (y17, I18))))
else (
jlet ((I12 (rfC t0 0) 5)) (fun (y15 : Int32) =>
jlet (jup I12 (rfC t0 0) 5 p1) (fun (I16 : jI) =>
some (y15, I16))))))))))
set_option maxRecDepth 20000 in
set_option maxHeartbeats 4000000 in
theorem W_X6_mode {Y : jY} {Z : jZ} {Qf : Int32 × jI → State → Prop} (hz0 : Y.zf = false) (t0 : Nat) (ht0 : shC t0 = 7) (p0 : Int32) (p1 : Int32) (I0 : jI) (L0 : jL) (hX : jOK Y Z RX6 cX6_mode 4 "mode" (some .int) 5 175 0 0) (hQ : ∀ r : Int32 × jI, Qf r = jQ Y Z 0 0 (some (ji r.1)) NC shC rfC r.2 L0) : J Y Z 4 Qf (X6_mode t0 p0 p1 I0) 0 [(0, jr t0), (1, ji p0), (2, ji p1)] [] 0 0 NC shC rfC I0 L0 := by
  unfold X6_mode
  refine J_iload_n (pc := 0) hX 1 rfl dX6_mode_0 ?_
  refine J_iconst (pc := 1) hX (v := (0 : Int32)) (by decide) dX6_mode_1 ?_
  refine J_iconst (pc := 2) hX (v := (1 : Int32)) (by decide) dX6_mode_2 ?_
  refine J_call1 (fun y1 e2 => ?_)
  refine jrun_i (pc := 3) (jRunS hX s_X6_47 (As := [ji p0, ji (0 : Int32), ji (1 : Int32)]) (rest := []) (C_X6_isWithin Y hz0 p0 (0 : Int32) (1 : Int32) I0 L0 y1 e2) rfl rfl ⟨by decide, by decide⟩ ⟨Nat.le_of_ble_eq_true rfl, Nat.le_of_ble_eq_true rfl⟩ (Nat.le_of_ble_eq_true rfl) dX6_mode_3) ?_
  refine J_if_eq (pc := 6) hX (tgt := 26) (by decide) dX6_mode_6 (fun h3 => ?_) (fun h3 => ?_)
  · refine J_aload_n (pc := 26) hX 0 rfl dX6_mode_26 ?_
    refine J_bipush (pc := 27) hX (v := (-52 : Int32)) (by decide) dX6_mode_27 ?_
    refine J_call2 (fun y4 I5 e6 => ?_)
    refine jrun_i (pc := 29) (jRunV hX s_X6_51 (ci := 6) (T := TX6) (N := 8) (As := [ji (-52 : Int32)]) (rest := []) rfl (by decide) (C_X6_refuse Y hz0 t0 ht0 (-52 : Int32) I0 L0 y4 I5 e6) ht0 rfl rfl ⟨by decide, by decide⟩ ⟨Nat.le_of_ble_eq_true rfl, Nat.le_of_ble_eq_true rfl⟩ (Nat.le_of_ble_eq_true rfl) dX6_mode_29) ?_
    exact J_iret (pc := 32) hX (hQ _) dX6_mode_32
  · refine J_iload_n (pc := 9) hX 2 rfl dX6_mode_9 ?_
    refine J_iconst (pc := 10) hX (v := (0 : Int32)) (by decide) dX6_mode_10 ?_
    refine J_iload_n (pc := 11) hX 1 rfl dX6_mode_11 ?_
    refine J_vjoin (fun kq (y8 : Int32) => J Y Z 4 Qf (kq) 20 [(0, jr t0), (1, ji p0), (2, ji p1)] [ji y8, ji (0 : Int32), ji p1] 0 0 NC shC rfC I0 L0) (fun y8 => ?_) (fun hj => ?_)
    · try dsimp only
      refine J_call1 (fun y9 e10 => ?_)
      refine jrun_i (pc := 20) (jRunS hX s_X6_47 (As := [ji p1, ji (0 : Int32), ji y8]) (rest := []) (C_X6_isWithin Y hz0 p1 (0 : Int32) y8 I0 L0 y9 e10) rfl rfl ⟨by decide, by decide⟩ ⟨Nat.le_of_ble_eq_true rfl, Nat.le_of_ble_eq_true rfl⟩ (Nat.le_of_ble_eq_true rfl) dX6_mode_20) ?_
      refine J_if_ne (pc := 23) hX (tgt := 33) (by decide) dX6_mode_23 (fun h11 => ?_) (fun h11 => ?_)
      · refine J_aload_n (pc := 33) hX 0 rfl dX6_mode_33 ?_
        refine g_X6_10 (pc := 34) hX ht0 dX6_mode_34 ?_
        refine J_call1 (fun I12 e13 => ?_)
        refine jrun_v (pc := 37) (jRunV hX s_X6_165 (ci := 4) (T := TX4) (N := 18) (As := []) (rest := []) rfl (by decide) (C_X4_sweepOut Y hz0 (rfC t0 0) (fs_6_0 t0 ht0) I0 L0 I12 e13) (fs_6_0 t0 ht0) rfl rfl ⟨by decide, by decide⟩ ⟨Nat.le_of_ble_eq_true rfl, Nat.le_of_ble_eq_true rfl⟩ (Nat.le_of_ble_eq_true rfl) dX6_mode_37) ?_
        refine J_iload_n (pc := 40) hX 1 rfl dX6_mode_40 ?_
        refine J_if_ne (pc := 41) hX (tgt := 63) (by decide) dX6_mode_41 (fun h14 => ?_) (fun h14 => ?_)
        · refine J_aload_n (pc := 63) hX 0 rfl dX6_mode_63 ?_
          refine g_X6_10 (pc := 64) hX ht0 dX6_mode_64 ?_
          refine g_X6_178 (pc := 67) hX (fs_6_0 t0 ht0) dX6_mode_67 ?_
          refine J_leti (fun y15 => ?_)
          refine J_istore_n (pc := 70) hX (lo' := [(3, ji y15), (0, jr t0), (1, ji p0), (2, ji p1)]) (by decide) rfl dX6_mode_70 ?_
          refine J_aload_n (pc := 71) hX 1 rfl dX6_mode_71 ?_
          refine g_X6_10 (pc := 72) hX ht0 dX6_mode_72 ?_
          refine J_iload_n (pc := 75) hX 3 rfl dX6_mode_75 ?_
          refine p_X6_178 (pc := 76) hX (fs_6_0 t0 ht0) dX6_mode_76 (fun I16 => ?_)
          refine J_iload_n (pc := 79) hX 0 rfl dX6_mode_79 ?_
          exact J_iret (pc := 80) hX (hQ _) dX6_mode_80
        · refine J_aload_n (pc := 44) hX 0 rfl dX6_mode_44 ?_
          refine g_X6_10 (pc := 45) hX ht0 dX6_mode_45 ?_
          refine g_X6_175 (pc := 48) hX (fs_6_0 t0 ht0) dX6_mode_48 ?_
          refine J_leti (fun y17 => ?_)
          refine J_istore_n (pc := 51) hX (lo' := [(3, ji y17), (0, jr t0), (1, ji p0), (2, ji p1)]) (by decide) rfl dX6_mode_51 ?_
          refine J_aload_n (pc := 52) hX 1 rfl dX6_mode_52 ?_
          refine g_X6_10 (pc := 53) hX ht0 dX6_mode_53 ?_
          refine J_iload_n (pc := 56) hX 3 rfl dX6_mode_56 ?_
          refine p_X6_175 (pc := 57) hX (fs_6_0 t0 ht0) dX6_mode_57 (fun I18 => ?_)
          refine J_goto (pc := 60) hX (tgt := 79) (by decide) dX6_mode_60 ?_
          refine J_iload_n (pc := 79) hX 0 rfl dX6_mode_79 ?_
          exact J_iret (pc := 80) hX (hQ _) dX6_mode_80
      · refine J_aload_n (pc := 26) hX 0 rfl dX6_mode_26 ?_
        refine J_bipush (pc := 27) hX (v := (-52 : Int32)) (by decide) dX6_mode_27 ?_
        refine J_call2 (fun y19 I20 e21 => ?_)
        refine jrun_i (pc := 29) (jRunV hX s_X6_51 (ci := 6) (T := TX6) (N := 8) (As := [ji (-52 : Int32)]) (rest := []) rfl (by decide) (C_X6_refuse Y hz0 t0 ht0 (-52 : Int32) I0 L0 y19 I20 e21) ht0 rfl rfl ⟨by decide, by decide⟩ ⟨Nat.le_of_ble_eq_true rfl, Nat.le_of_ble_eq_true rfl⟩ (Nat.le_of_ble_eq_true rfl) dX6_mode_29) ?_
        exact J_iret (pc := 32) hX (hQ _) dX6_mode_32
    try dsimp only at hj
    refine J_if_neV (pc := 12) hX (tgt := 19) (by decide) dX6_mode_12 (fun h7 => ?_) (fun h7 => ?_)
    · refine J_iconst (pc := 19) hX (v := (1 : Int32)) (by decide) dX6_mode_19 ?_
      exact hj _
    · refine J_iconst (pc := 15) hX (v := (2 : Int32)) (by decide) dX6_mode_15 ?_
      refine J_goto (pc := 16) hX (tgt := 20) (by decide) dX6_mode_16 ?_
      exact hj _
theorem C_X6_mode (Y : jY) (hz0 : Y.zf = false) (t0 : Nat) (ht0 : shC t0 = 7) (p0 : Int32) (p1 : Int32) (I0 : jI) (L0 : jL) (r : Int32) (I1 : jI) (h : X6_mode t0 p0 p1 I0 = some (r, I1)) : jMet Y yX6_mode cX6_mode 4 (some .int) 5 175 0 0 [jr t0, ji p0, ji p1] NC shC rfC I0 L0 (some (ji r)) NC shC rfC I1 L0 :=
  jmet_of _ _ h (fun Z r => jQ Y Z 0 0 (some (ji r.1)) NC shC rfC r.2 L0) (fun _ => rfl) (by decide) (Nat.le_of_ble_eq_true rfl) (fun Z hX => W_X6_mode hz0 t0 ht0 p0 p1 I0 L0 hX (fun _ => rfl))
def X6_tell (t0 : Nat) (p0 : Int32) (p1 : Int32) (I0 : jI) : Option (Int32 × jI) :=
(X6_isWithin p0 (0 : Int32) (1 : Int32)).bind (fun (y1 : Int32) =>
if y1 = 0 then (
jb2 (X6_refuse t0 (-52 : Int32) I0) (fun (y4 : Int32) (I5 : jI) =>
some (y4, I5)))
else (
jlet (if p0 = 0 then (8 : Int32) else (999 : Int32)) (fun (y8 : Int32) =>
(X6_isWithin p1 (0 : Int32) y8).bind (fun (y9 : Int32) =>
if y9 = 0 then (
jb2 (X6_refuse t0 (-52 : Int32) I0) (fun (y17 : Int32) (I18 : jI) =>
some (y17, I18)))
else (
if p0 = 0 then (
jlet ((I0 (rfC t0 0) 6)) (fun (y15 : Int32) =>
jlet (jup I0 (rfC t0 0) 6 p1) (fun (I16 : jI) =>
some (y15, I16))))
else (
jlet ((I0 (rfC t0 0) 3)) (fun (y13 : Int32) =>
jlet (jup I0 (rfC t0 0) 3 p1) (fun (I14 : jI) =>
some (y13, I14)))))))))
set_option maxRecDepth 20000 in
set_option maxHeartbeats 4000000 in
theorem W_X6_tell {Y : jY} {Z : jZ} {Qf : Int32 × jI → State → Prop} (hz0 : Y.zf = false) (t0 : Nat) (ht0 : shC t0 = 7) (p0 : Int32) (p1 : Int32) (I0 : jI) (L0 : jL) (hX : jOK Y Z RX6 cX6_tell 4 "tell" (some .int) 3 124 0 0) (hQ : ∀ r : Int32 × jI, Qf r = jQ Y Z 0 0 (some (ji r.1)) NC shC rfC r.2 L0) : J Y Z 4 Qf (X6_tell t0 p0 p1 I0) 0 [(0, jr t0), (1, ji p0), (2, ji p1)] [] 0 0 NC shC rfC I0 L0 := by
  unfold X6_tell
  refine J_iload_n (pc := 0) hX 1 rfl dX6_tell_0 ?_
  refine J_iconst (pc := 1) hX (v := (0 : Int32)) (by decide) dX6_tell_1 ?_
  refine J_iconst (pc := 2) hX (v := (1 : Int32)) (by decide) dX6_tell_2 ?_
  refine J_call1 (fun y1 e2 => ?_)
  refine jrun_i (pc := 3) (jRunS hX s_X6_47 (As := [ji p0, ji (0 : Int32), ji (1 : Int32)]) (rest := []) (C_X6_isWithin Y hz0 p0 (0 : Int32) (1 : Int32) I0 L0 y1 e2) rfl rfl ⟨by decide, by decide⟩ ⟨Nat.le_of_ble_eq_true rfl, Nat.le_of_ble_eq_true rfl⟩ (Nat.le_of_ble_eq_true rfl) dX6_tell_3) ?_
  refine J_if_eq (pc := 6) hX (tgt := 29) (by decide) dX6_tell_6 (fun h3 => ?_) (fun h3 => ?_)
  · refine J_aload_n (pc := 29) hX 0 rfl dX6_tell_29 ?_
    refine J_bipush (pc := 30) hX (v := (-52 : Int32)) (by decide) dX6_tell_30 ?_
    refine J_call2 (fun y4 I5 e6 => ?_)
    refine jrun_i (pc := 32) (jRunV hX s_X6_51 (ci := 6) (T := TX6) (N := 8) (As := [ji (-52 : Int32)]) (rest := []) rfl (by decide) (C_X6_refuse Y hz0 t0 ht0 (-52 : Int32) I0 L0 y4 I5 e6) ht0 rfl rfl ⟨by decide, by decide⟩ ⟨Nat.le_of_ble_eq_true rfl, Nat.le_of_ble_eq_true rfl⟩ (Nat.le_of_ble_eq_true rfl) dX6_tell_32) ?_
    exact J_iret (pc := 35) hX (hQ _) dX6_tell_35
  · refine J_iload_n (pc := 9) hX 2 rfl dX6_tell_9 ?_
    refine J_iconst (pc := 10) hX (v := (0 : Int32)) (by decide) dX6_tell_10 ?_
    refine J_iload_n (pc := 11) hX 1 rfl dX6_tell_11 ?_
    refine J_vjoin (fun kq (y8 : Int32) => J Y Z 4 Qf (kq) 23 [(0, jr t0), (1, ji p0), (2, ji p1)] [ji y8, ji (0 : Int32), ji p1] 0 0 NC shC rfC I0 L0) (fun y8 => ?_) (fun hj => ?_)
    · try dsimp only
      refine J_call1 (fun y9 e10 => ?_)
      refine jrun_i (pc := 23) (jRunS hX s_X6_47 (As := [ji p1, ji (0 : Int32), ji y8]) (rest := []) (C_X6_isWithin Y hz0 p1 (0 : Int32) y8 I0 L0 y9 e10) rfl rfl ⟨by decide, by decide⟩ ⟨Nat.le_of_ble_eq_true rfl, Nat.le_of_ble_eq_true rfl⟩ (Nat.le_of_ble_eq_true rfl) dX6_tell_23) ?_
      refine J_if_ne (pc := 26) hX (tgt := 36) (by decide) dX6_tell_26 (fun h11 => ?_) (fun h11 => ?_)
      · refine J_iload_n (pc := 36) hX 1 rfl dX6_tell_36 ?_
        refine J_if_ne (pc := 37) hX (tgt := 59) (by decide) dX6_tell_37 (fun h12 => ?_) (fun h12 => ?_)
        · refine J_aload_n (pc := 59) hX 0 rfl dX6_tell_59 ?_
          refine g_X6_10 (pc := 60) hX ht0 dX6_tell_60 ?_
          refine g_X6_181 (pc := 63) hX (fs_6_0 t0 ht0) dX6_tell_63 ?_
          refine J_leti (fun y13 => ?_)
          refine J_istore_n (pc := 66) hX (lo' := [(3, ji y13), (0, jr t0), (1, ji p0), (2, ji p1)]) (by decide) rfl dX6_tell_66 ?_
          refine J_aload_n (pc := 67) hX 1 rfl dX6_tell_67 ?_
          refine g_X6_10 (pc := 68) hX ht0 dX6_tell_68 ?_
          refine J_iload_n (pc := 71) hX 3 rfl dX6_tell_71 ?_
          refine p_X6_181 (pc := 72) hX (fs_6_0 t0 ht0) dX6_tell_72 (fun I14 => ?_)
          refine J_iload_n (pc := 75) hX 0 rfl dX6_tell_75 ?_
          exact J_iret (pc := 76) hX (hQ _) dX6_tell_76
        · refine J_aload_n (pc := 40) hX 0 rfl dX6_tell_40 ?_
          refine g_X6_10 (pc := 41) hX ht0 dX6_tell_41 ?_
          refine g_X6_162 (pc := 44) hX (fs_6_0 t0 ht0) dX6_tell_44 ?_
          refine J_leti (fun y15 => ?_)
          refine J_istore_n (pc := 47) hX (lo' := [(3, ji y15), (0, jr t0), (1, ji p0), (2, ji p1)]) (by decide) rfl dX6_tell_47 ?_
          refine J_aload_n (pc := 48) hX 1 rfl dX6_tell_48 ?_
          refine g_X6_10 (pc := 49) hX ht0 dX6_tell_49 ?_
          refine J_iload_n (pc := 52) hX 3 rfl dX6_tell_52 ?_
          refine p_X6_162 (pc := 53) hX (fs_6_0 t0 ht0) dX6_tell_53 (fun I16 => ?_)
          refine J_goto (pc := 56) hX (tgt := 75) (by decide) dX6_tell_56 ?_
          refine J_iload_n (pc := 75) hX 0 rfl dX6_tell_75 ?_
          exact J_iret (pc := 76) hX (hQ _) dX6_tell_76
      · refine J_aload_n (pc := 29) hX 0 rfl dX6_tell_29 ?_
        refine J_bipush (pc := 30) hX (v := (-52 : Int32)) (by decide) dX6_tell_30 ?_
        refine J_call2 (fun y17 I18 e19 => ?_)
        refine jrun_i (pc := 32) (jRunV hX s_X6_51 (ci := 6) (T := TX6) (N := 8) (As := [ji (-52 : Int32)]) (rest := []) rfl (by decide) (C_X6_refuse Y hz0 t0 ht0 (-52 : Int32) I0 L0 y17 I18 e19) ht0 rfl rfl ⟨by decide, by decide⟩ ⟨Nat.le_of_ble_eq_true rfl, Nat.le_of_ble_eq_true rfl⟩ (Nat.le_of_ble_eq_true rfl) dX6_tell_32) ?_
        exact J_iret (pc := 35) hX (hQ _) dX6_tell_35
    try dsimp only at hj
    refine J_if_neV (pc := 12) hX (tgt := 20) (by decide) dX6_tell_12 (fun h7 => ?_) (fun h7 => ?_)
    · refine J_sipush (pc := 20) hX (v := (999 : Int32)) (by decide) dX6_tell_20 ?_
      exact hj _
    · refine J_bipush (pc := 15) hX (v := (8 : Int32)) (by decide) dX6_tell_15 ?_
      refine J_goto (pc := 17) hX (tgt := 23) (by decide) dX6_tell_17 ?_
      exact hj _
theorem C_X6_tell (Y : jY) (hz0 : Y.zf = false) (t0 : Nat) (ht0 : shC t0 = 7) (p0 : Int32) (p1 : Int32) (I0 : jI) (L0 : jL) (r : Int32) (I1 : jI) (h : X6_tell t0 p0 p1 I0 = some (r, I1)) : jMet Y yX6_tell cX6_tell 4 (some .int) 3 124 0 0 [jr t0, ji p0, ji p1] NC shC rfC I0 L0 (some (ji r)) NC shC rfC I1 L0 :=
  jmet_of _ _ h (fun Z r => jQ Y Z 0 0 (some (ji r.1)) NC shC rfC r.2 L0) (fun _ => rfl) (by decide) (Nat.le_of_ble_eq_true rfl) (fun Z hX => W_X6_tell hz0 t0 ht0 p0 p1 I0 L0 hX (fun _ => rfl))
def X6_read (t0 : Nat) (p0 : Int32) (I0 : jI) : Option (Int32 × jI) :=
(X6_isPage p0).bind (fun (y1 : Int32) =>
if y1 = 0 then (
jb2 (X6_refuse t0 (-52 : Int32) I0) (fun (y7 : Int32) (I8 : jI) =>
some (y7, I8)))
else (
jb2 (X4_access (rfC t0 0) p0 (0 : Int32) (0 : Int32) I0) (fun (y4 : Int32) (I5 : jI) =>
some ((I5 (rfC t0 0) 17), I5))))
set_option maxRecDepth 20000 in
set_option maxHeartbeats 4000000 in
theorem W_X6_read {Y : jY} {Z : jZ} {Qf : Int32 × jI → State → Prop} (hz0 : Y.zf = false) (t0 : Nat) (ht0 : shC t0 = 7) (p0 : Int32) (I0 : jI) (L0 : jL) (hX : jOK Y Z RX6 cX6_read 2 "read" (some .int) 46 2208 0 0) (hQ : ∀ r : Int32 × jI, Qf r = jQ Y Z 0 0 (some (ji r.1)) NC shC rfC r.2 L0) : J Y Z 2 Qf (X6_read t0 p0 I0) 0 [(0, jr t0), (1, ji p0)] [] 0 0 NC shC rfC I0 L0 := by
  unfold X6_read
  refine J_iload_n (pc := 0) hX 1 rfl dX6_read_0 ?_
  refine J_call1 (fun y1 e2 => ?_)
  refine jrun_i (pc := 1) (jRunS hX s_X6_184 (As := [ji p0]) (rest := []) (C_X6_isPage Y hz0 p0 I0 L0 y1 e2) rfl rfl ⟨by decide, by decide⟩ ⟨Nat.le_of_ble_eq_true rfl, Nat.le_of_ble_eq_true rfl⟩ (Nat.le_of_ble_eq_true rfl) dX6_read_1) ?_
  refine J_if_ne (pc := 4) hX (tgt := 14) (by decide) dX6_read_4 (fun h3 => ?_) (fun h3 => ?_)
  · refine J_aload_n (pc := 14) hX 0 rfl dX6_read_14 ?_
    refine g_X6_10 (pc := 15) hX ht0 dX6_read_15 ?_
    refine J_iload_n (pc := 18) hX 1 rfl dX6_read_18 ?_
    refine J_iconst (pc := 19) hX (v := (0 : Int32)) (by decide) dX6_read_19 ?_
    refine J_iconst (pc := 20) hX (v := (0 : Int32)) (by decide) dX6_read_20 ?_
    refine J_call2 (fun y4 I5 e6 => ?_)
    refine jrun_i (pc := 21) (jRunV hX s_X6_152 (ci := 4) (T := TX4) (N := 18) (As := [ji p0, ji (0 : Int32), ji (0 : Int32)]) (rest := []) rfl (by decide) (C_X4_access Y hz0 (rfC t0 0) (fs_6_0 t0 ht0) p0 (0 : Int32) (0 : Int32) I0 L0 y4 I5 e6) (fs_6_0 t0 ht0) rfl rfl ⟨by decide, by decide⟩ ⟨Nat.le_of_ble_eq_true rfl, Nat.le_of_ble_eq_true rfl⟩ (Nat.le_of_ble_eq_true rfl) dX6_read_21) ?_
    refine J_pop (pc := 24) hX rfl dX6_read_24 ?_
    refine J_aload_n (pc := 25) hX 0 rfl dX6_read_25 ?_
    refine g_X6_10 (pc := 26) hX ht0 dX6_read_26 ?_
    refine g_X6_187 (pc := 29) hX (fs_6_0 t0 ht0) dX6_read_29 ?_
    exact J_iret (pc := 32) hX (hQ _) dX6_read_32
  · refine J_aload_n (pc := 7) hX 0 rfl dX6_read_7 ?_
    refine J_bipush (pc := 8) hX (v := (-52 : Int32)) (by decide) dX6_read_8 ?_
    refine J_call2 (fun y7 I8 e9 => ?_)
    refine jrun_i (pc := 10) (jRunV hX s_X6_51 (ci := 6) (T := TX6) (N := 8) (As := [ji (-52 : Int32)]) (rest := []) rfl (by decide) (C_X6_refuse Y hz0 t0 ht0 (-52 : Int32) I0 L0 y7 I8 e9) ht0 rfl rfl ⟨by decide, by decide⟩ ⟨Nat.le_of_ble_eq_true rfl, Nat.le_of_ble_eq_true rfl⟩ (Nat.le_of_ble_eq_true rfl) dX6_read_10) ?_
    exact J_iret (pc := 13) hX (hQ _) dX6_read_13
theorem C_X6_read (Y : jY) (hz0 : Y.zf = false) (t0 : Nat) (ht0 : shC t0 = 7) (p0 : Int32) (I0 : jI) (L0 : jL) (r : Int32) (I1 : jI) (h : X6_read t0 p0 I0 = some (r, I1)) : jMet Y yX6_read cX6_read 2 (some .int) 46 2208 0 0 [jr t0, ji p0] NC shC rfC I0 L0 (some (ji r)) NC shC rfC I1 L0 :=
  jmet_of _ _ h (fun Z r => jQ Y Z 0 0 (some (ji r.1)) NC shC rfC r.2 L0) (fun _ => rfl) (by decide) (Nat.le_of_ble_eq_true rfl) (fun Z hX => W_X6_read hz0 t0 ht0 p0 I0 L0 hX (fun _ => rfl))
def X6_write (t0 : Nat) (p0 : Int32) (p1 : Int32) (I0 : jI) : Option (Int32 × jI) :=
(X6_isPage p0).bind (fun (y1 : Int32) =>
if y1 = 0 then (
jb2 (X6_refuse t0 (-52 : Int32) I0) (fun (y7 : Int32) (I8 : jI) =>
some (y7, I8)))
else (
jb2 (X4_access (rfC t0 0) p0 (1 : Int32) p1 I0) (fun (y4 : Int32) (I5 : jI) =>
some (y4, I5))))
set_option maxRecDepth 20000 in
set_option maxHeartbeats 4000000 in
theorem W_X6_write {Y : jY} {Z : jZ} {Qf : Int32 × jI → State → Prop} (hz0 : Y.zf = false) (t0 : Nat) (ht0 : shC t0 = 7) (p0 : Int32) (p1 : Int32) (I0 : jI) (L0 : jL) (hX : jOK Y Z RX6 cX6_write 3 "write" (some .int) 46 2208 0 0) (hQ : ∀ r : Int32 × jI, Qf r = jQ Y Z 0 0 (some (ji r.1)) NC shC rfC r.2 L0) : J Y Z 3 Qf (X6_write t0 p0 p1 I0) 0 [(0, jr t0), (1, ji p0), (2, ji p1)] [] 0 0 NC shC rfC I0 L0 := by
  unfold X6_write
  refine J_iload_n (pc := 0) hX 1 rfl dX6_write_0 ?_
  refine J_call1 (fun y1 e2 => ?_)
  refine jrun_i (pc := 1) (jRunS hX s_X6_184 (As := [ji p0]) (rest := []) (C_X6_isPage Y hz0 p0 I0 L0 y1 e2) rfl rfl ⟨by decide, by decide⟩ ⟨Nat.le_of_ble_eq_true rfl, Nat.le_of_ble_eq_true rfl⟩ (Nat.le_of_ble_eq_true rfl) dX6_write_1) ?_
  refine J_if_ne (pc := 4) hX (tgt := 14) (by decide) dX6_write_4 (fun h3 => ?_) (fun h3 => ?_)
  · refine J_aload_n (pc := 14) hX 0 rfl dX6_write_14 ?_
    refine g_X6_10 (pc := 15) hX ht0 dX6_write_15 ?_
    refine J_iload_n (pc := 18) hX 1 rfl dX6_write_18 ?_
    refine J_iconst (pc := 19) hX (v := (1 : Int32)) (by decide) dX6_write_19 ?_
    refine J_iload_n (pc := 20) hX 2 rfl dX6_write_20 ?_
    refine J_call2 (fun y4 I5 e6 => ?_)
    refine jrun_i (pc := 21) (jRunV hX s_X6_152 (ci := 4) (T := TX4) (N := 18) (As := [ji p0, ji (1 : Int32), ji p1]) (rest := []) rfl (by decide) (C_X4_access Y hz0 (rfC t0 0) (fs_6_0 t0 ht0) p0 (1 : Int32) p1 I0 L0 y4 I5 e6) (fs_6_0 t0 ht0) rfl rfl ⟨by decide, by decide⟩ ⟨Nat.le_of_ble_eq_true rfl, Nat.le_of_ble_eq_true rfl⟩ (Nat.le_of_ble_eq_true rfl) dX6_write_21) ?_
    exact J_iret (pc := 24) hX (hQ _) dX6_write_24
  · refine J_aload_n (pc := 7) hX 0 rfl dX6_write_7 ?_
    refine J_bipush (pc := 8) hX (v := (-52 : Int32)) (by decide) dX6_write_8 ?_
    refine J_call2 (fun y7 I8 e9 => ?_)
    refine jrun_i (pc := 10) (jRunV hX s_X6_51 (ci := 6) (T := TX6) (N := 8) (As := [ji (-52 : Int32)]) (rest := []) rfl (by decide) (C_X6_refuse Y hz0 t0 ht0 (-52 : Int32) I0 L0 y7 I8 e9) ht0 rfl rfl ⟨by decide, by decide⟩ ⟨Nat.le_of_ble_eq_true rfl, Nat.le_of_ble_eq_true rfl⟩ (Nat.le_of_ble_eq_true rfl) dX6_write_10) ?_
    exact J_iret (pc := 13) hX (hQ _) dX6_write_13
theorem C_X6_write (Y : jY) (hz0 : Y.zf = false) (t0 : Nat) (ht0 : shC t0 = 7) (p0 : Int32) (p1 : Int32) (I0 : jI) (L0 : jL) (r : Int32) (I1 : jI) (h : X6_write t0 p0 p1 I0 = some (r, I1)) : jMet Y yX6_write cX6_write 3 (some .int) 46 2208 0 0 [jr t0, ji p0, ji p1] NC shC rfC I0 L0 (some (ji r)) NC shC rfC I1 L0 :=
  jmet_of _ _ h (fun Z r => jQ Y Z 0 0 (some (ji r.1)) NC shC rfC r.2 L0) (fun _ => rfl) (by decide) (Nat.le_of_ble_eq_true rfl) (fun Z hX => W_X6_write hz0 t0 ht0 p0 p1 I0 L0 hX (fun _ => rfl))
def X6_sweep (t0 : Nat) (p0 : Int32) (I0 : jI) : Option (Int32 × jI) :=
(X6_isWithin p0 (1 : Int32) (I0 (rfC t0 0) 1)).bind (fun (y1 : Int32) =>
if y1 = 0 then (
jb2 (X6_refuse t0 (-52 : Int32) I0) (fun (y7 : Int32) (I8 : jI) =>
some (y7, I8)))
else (
jb2 (X4_sweepLevel (rfC t0 0) p0 I0) (fun (y4 : Int32) (I5 : jI) =>
some (y4, I5))))
set_option maxRecDepth 20000 in
set_option maxHeartbeats 4000000 in
theorem W_X6_sweep {Y : jY} {Z : jZ} {Qf : Int32 × jI → State → Prop} (hz0 : Y.zf = false) (t0 : Nat) (ht0 : shC t0 = 7) (p0 : Int32) (I0 : jI) (L0 : jL) (hX : jOK Y Z RX6 cX6_sweep 2 "sweep" (some .int) 4 153 0 0) (hQ : ∀ r : Int32 × jI, Qf r = jQ Y Z 0 0 (some (ji r.1)) NC shC rfC r.2 L0) : J Y Z 2 Qf (X6_sweep t0 p0 I0) 0 [(0, jr t0), (1, ji p0)] [] 0 0 NC shC rfC I0 L0 := by
  unfold X6_sweep
  refine J_iload_n (pc := 0) hX 1 rfl dX6_sweep_0 ?_
  refine J_iconst (pc := 1) hX (v := (1 : Int32)) (by decide) dX6_sweep_1 ?_
  refine J_aload_n (pc := 2) hX 0 rfl dX6_sweep_2 ?_
  refine g_X6_10 (pc := 3) hX ht0 dX6_sweep_3 ?_
  refine g_X6_103 (pc := 6) hX (fs_6_0 t0 ht0) dX6_sweep_6 ?_
  refine J_call1 (fun y1 e2 => ?_)
  refine jrun_i (pc := 9) (jRunS hX s_X6_47 (As := [ji p0, ji (1 : Int32), ji (I0 (rfC t0 0) 1)]) (rest := []) (C_X6_isWithin Y hz0 p0 (1 : Int32) (I0 (rfC t0 0) 1) I0 L0 y1 e2) rfl rfl ⟨by decide, by decide⟩ ⟨Nat.le_of_ble_eq_true rfl, Nat.le_of_ble_eq_true rfl⟩ (Nat.le_of_ble_eq_true rfl) dX6_sweep_9) ?_
  refine J_if_ne (pc := 12) hX (tgt := 22) (by decide) dX6_sweep_12 (fun h3 => ?_) (fun h3 => ?_)
  · refine J_aload_n (pc := 22) hX 0 rfl dX6_sweep_22 ?_
    refine g_X6_10 (pc := 23) hX ht0 dX6_sweep_23 ?_
    refine J_iload_n (pc := 26) hX 1 rfl dX6_sweep_26 ?_
    refine J_call2 (fun y4 I5 e6 => ?_)
    refine jrun_i (pc := 27) (jRunV hX s_X6_159 (ci := 4) (T := TX4) (N := 18) (As := [ji p0]) (rest := []) rfl (by decide) (C_X4_sweepLevel Y hz0 (rfC t0 0) (fs_6_0 t0 ht0) p0 I0 L0 y4 I5 e6) (fs_6_0 t0 ht0) rfl rfl ⟨by decide, by decide⟩ ⟨Nat.le_of_ble_eq_true rfl, Nat.le_of_ble_eq_true rfl⟩ (Nat.le_of_ble_eq_true rfl) dX6_sweep_27) ?_
    exact J_iret (pc := 30) hX (hQ _) dX6_sweep_30
  · refine J_aload_n (pc := 15) hX 0 rfl dX6_sweep_15 ?_
    refine J_bipush (pc := 16) hX (v := (-52 : Int32)) (by decide) dX6_sweep_16 ?_
    refine J_call2 (fun y7 I8 e9 => ?_)
    refine jrun_i (pc := 18) (jRunV hX s_X6_51 (ci := 6) (T := TX6) (N := 8) (As := [ji (-52 : Int32)]) (rest := []) rfl (by decide) (C_X6_refuse Y hz0 t0 ht0 (-52 : Int32) I0 L0 y7 I8 e9) ht0 rfl rfl ⟨by decide, by decide⟩ ⟨Nat.le_of_ble_eq_true rfl, Nat.le_of_ble_eq_true rfl⟩ (Nat.le_of_ble_eq_true rfl) dX6_sweep_18) ?_
    exact J_iret (pc := 21) hX (hQ _) dX6_sweep_21
theorem C_X6_sweep (Y : jY) (hz0 : Y.zf = false) (t0 : Nat) (ht0 : shC t0 = 7) (p0 : Int32) (I0 : jI) (L0 : jL) (r : Int32) (I1 : jI) (h : X6_sweep t0 p0 I0 = some (r, I1)) : jMet Y yX6_sweep cX6_sweep 2 (some .int) 4 153 0 0 [jr t0, ji p0] NC shC rfC I0 L0 (some (ji r)) NC shC rfC I1 L0 :=
  jmet_of _ _ h (fun Z r => jQ Y Z 0 0 (some (ji r.1)) NC shC rfC r.2 L0) (fun _ => rfl) (by decide) (Nat.le_of_ble_eq_true rfl) (fun Z hX => W_X6_sweep hz0 t0 ht0 p0 I0 L0 hX (fun _ => rfl))
def J13_bitCount_95d88 (p0 : Int64) : Option (Int32) :=
jlet ((p0 - ((jlushr p0 (1 : Int32)) &&& (6148914691236517205 : Int64)))) (fun (y1 : Int64) =>
jlet (((y1 &&& (3689348814741910323 : Int64)) + ((jlushr y1 (2 : Int32)) &&& (3689348814741910323 : Int64)))) (fun (y2 : Int64) =>
jlet (((y2 + (jlushr y2 (4 : Int32))) &&& (1085102592571150095 : Int64))) (fun (y3 : Int64) =>
jlet ((y3 + (jlushr y3 (8 : Int32)))) (fun (y4 : Int64) =>
jlet ((y4 + (jlushr y4 (16 : Int32)))) (fun (y5 : Int64) =>
jlet ((y5 + (jlushr y5 (32 : Int32)))) (fun (y6 : Int64) =>
some ((y6).toInt32 &&& (127 : Int32))))))))
set_option maxRecDepth 20000 in
set_option maxHeartbeats 4000000 in
theorem W_J13_bitCount_95d88 {Y : jY} {Z : jZ} {Qf : Int32 → State → Prop} (hz0 : Y.zf = false) (p0 : Int64) (I0 : jI) (L0 : jL) (hX : jOK Y Z RJ13 cJ13_bitCount_95d88 2 "bitCount" (some .int) 1 80 0 0) (hQ : ∀ r : Int32, Qf r = jQ Y Z 0 0 (some (ji r)) NC shC rfC I0 L0) : J Y Z 2 Qf (J13_bitCount_95d88 p0) 0 [(0, jl p0)] [] 0 0 NC shC rfC I0 L0 := by
  unfold J13_bitCount_95d88
  refine J_lload_n (pc := 0) hX 0 rfl dJ13_bitCount_95d88_0 ?_
  refine J_lload_n (pc := 1) hX 0 rfl dJ13_bitCount_95d88_1 ?_
  refine J_iconst (pc := 2) hX (v := (1 : Int32)) (by decide) dJ13_bitCount_95d88_2 ?_
  refine J_lushr (pc := 3) hX dJ13_bitCount_95d88_3 ?_
  refine J_ldc2 (pc := 4) hX q_J13_314 dJ13_bitCount_95d88_4 ?_
  refine J_land (pc := 7) hX dJ13_bitCount_95d88_7 ?_
  refine J_lsub (pc := 8) hX dJ13_bitCount_95d88_8 ?_
  refine J_letl (fun y1 => ?_)
  refine J_lstore_n (pc := 9) hX (lo' := [(0, jl y1)]) (by decide) rfl dJ13_bitCount_95d88_9 ?_
  refine J_lload_n (pc := 10) hX 0 rfl dJ13_bitCount_95d88_10 ?_
  refine J_ldc2 (pc := 11) hX q_J13_316 dJ13_bitCount_95d88_11 ?_
  refine J_land (pc := 14) hX dJ13_bitCount_95d88_14 ?_
  refine J_lload_n (pc := 15) hX 0 rfl dJ13_bitCount_95d88_15 ?_
  refine J_iconst (pc := 16) hX (v := (2 : Int32)) (by decide) dJ13_bitCount_95d88_16 ?_
  refine J_lushr (pc := 17) hX dJ13_bitCount_95d88_17 ?_
  refine J_ldc2 (pc := 18) hX q_J13_316 dJ13_bitCount_95d88_18 ?_
  refine J_land (pc := 21) hX dJ13_bitCount_95d88_21 ?_
  refine J_ladd (pc := 22) hX dJ13_bitCount_95d88_22 ?_
  refine J_letl (fun y2 => ?_)
  refine J_lstore_n (pc := 23) hX (lo' := [(0, jl y2)]) (by decide) rfl dJ13_bitCount_95d88_23 ?_
  refine J_lload_n (pc := 24) hX 0 rfl dJ13_bitCount_95d88_24 ?_
  refine J_lload_n (pc := 25) hX 0 rfl dJ13_bitCount_95d88_25 ?_
  refine J_iconst (pc := 26) hX (v := (4 : Int32)) (by decide) dJ13_bitCount_95d88_26 ?_
  refine J_lushr (pc := 27) hX dJ13_bitCount_95d88_27 ?_
  refine J_ladd (pc := 28) hX dJ13_bitCount_95d88_28 ?_
  refine J_ldc2 (pc := 29) hX q_J13_318 dJ13_bitCount_95d88_29 ?_
  refine J_land (pc := 32) hX dJ13_bitCount_95d88_32 ?_
  refine J_letl (fun y3 => ?_)
  refine J_lstore_n (pc := 33) hX (lo' := [(0, jl y3)]) (by decide) rfl dJ13_bitCount_95d88_33 ?_
  refine J_lload_n (pc := 34) hX 0 rfl dJ13_bitCount_95d88_34 ?_
  refine J_lload_n (pc := 35) hX 0 rfl dJ13_bitCount_95d88_35 ?_
  refine J_bipush (pc := 36) hX (v := (8 : Int32)) (by decide) dJ13_bitCount_95d88_36 ?_
  refine J_lushr (pc := 38) hX dJ13_bitCount_95d88_38 ?_
  refine J_ladd (pc := 39) hX dJ13_bitCount_95d88_39 ?_
  refine J_letl (fun y4 => ?_)
  refine J_lstore_n (pc := 40) hX (lo' := [(0, jl y4)]) (by decide) rfl dJ13_bitCount_95d88_40 ?_
  refine J_lload_n (pc := 41) hX 0 rfl dJ13_bitCount_95d88_41 ?_
  refine J_lload_n (pc := 42) hX 0 rfl dJ13_bitCount_95d88_42 ?_
  refine J_bipush (pc := 43) hX (v := (16 : Int32)) (by decide) dJ13_bitCount_95d88_43 ?_
  refine J_lushr (pc := 45) hX dJ13_bitCount_95d88_45 ?_
  refine J_ladd (pc := 46) hX dJ13_bitCount_95d88_46 ?_
  refine J_letl (fun y5 => ?_)
  refine J_lstore_n (pc := 47) hX (lo' := [(0, jl y5)]) (by decide) rfl dJ13_bitCount_95d88_47 ?_
  refine J_lload_n (pc := 48) hX 0 rfl dJ13_bitCount_95d88_48 ?_
  refine J_lload_n (pc := 49) hX 0 rfl dJ13_bitCount_95d88_49 ?_
  refine J_bipush (pc := 50) hX (v := (32 : Int32)) (by decide) dJ13_bitCount_95d88_50 ?_
  refine J_lushr (pc := 52) hX dJ13_bitCount_95d88_52 ?_
  refine J_ladd (pc := 53) hX dJ13_bitCount_95d88_53 ?_
  refine J_letl (fun y6 => ?_)
  refine J_lstore_n (pc := 54) hX (lo' := [(0, jl y6)]) (by decide) rfl dJ13_bitCount_95d88_54 ?_
  refine J_lload_n (pc := 55) hX 0 rfl dJ13_bitCount_95d88_55 ?_
  refine J_l2i (pc := 56) hX dJ13_bitCount_95d88_56 ?_
  refine J_bipush (pc := 57) hX (v := (127 : Int32)) (by decide) dJ13_bitCount_95d88_57 ?_
  refine J_iand (pc := 59) hX dJ13_bitCount_95d88_59 ?_
  exact J_iret (pc := 60) hX (hQ _) dJ13_bitCount_95d88_60
theorem C_J13_bitCount_95d88 (Y : jY) (hz0 : Y.zf = false) (p0 : Int64) (I0 : jI) (L0 : jL) (r : Int32) (h : J13_bitCount_95d88 p0 = some r) : jMet Y yJ13_bitCount_95d88 cJ13_bitCount_95d88 2 (some .int) 1 80 0 0 [jl p0] NC shC rfC I0 L0 (some (ji r)) NC shC rfC I0 L0 :=
  jmet_ofF _ _ h (fun Z r => jQ Y Z 0 0 (some (ji r)) NC shC rfC I0 L0) (fun _ => rfl) (by decide +kernel) (Nat.le_of_ble_eq_true rfl) (fun Z hX => W_J13_bitCount_95d88 hz0 p0 I0 L0 hX (fun _ => rfl))
def X6_clear (t0 : Nat) (I0 : jI) : Option (Int32 × jI) :=
(X4_pagesIn (rfC t0 0) (0 : Int32) I0).bind (fun (y1 : Int64) =>
(J13_bitCount_95d88 y1).bind (fun (y3 : Int32) =>
(X4_sweepOut (rfC t0 0) I0).bind (fun (I5 : jI) =>
some (y3, I5))))
set_option maxRecDepth 20000 in
set_option maxHeartbeats 4000000 in
theorem W_X6_clear {Y : jY} {Z : jZ} {Qf : Int32 × jI → State → Prop} (hz0 : Y.zf = false) (t0 : Nat) (ht0 : shC t0 = 7) (I0 : jI) (L0 : jL) (hX : jOK Y Z RX6 cX6_clear 2 "clear" (some .int) 5 175 0 0) (hQ : ∀ r : Int32 × jI, Qf r = jQ Y Z 0 0 (some (ji r.1)) NC shC rfC r.2 L0) : J Y Z 2 Qf (X6_clear t0 I0) 0 [(0, jr t0)] [] 0 0 NC shC rfC I0 L0 := by
  unfold X6_clear
  refine J_aload_n (pc := 0) hX 0 rfl dX6_clear_0 ?_
  refine g_X6_10 (pc := 1) hX ht0 dX6_clear_1 ?_
  refine J_iconst (pc := 4) hX (v := (0 : Int32)) (by decide) dX6_clear_4 ?_
  refine J_call1 (fun y1 e2 => ?_)
  refine jrun_l (pc := 5) (jRunV hX s_X6_190 (ci := 4) (T := TX4) (N := 18) (As := [ji (0 : Int32)]) (rest := []) rfl (by decide) (C_X4_pagesIn Y hz0 (rfC t0 0) (fs_6_0 t0 ht0) (0 : Int32) I0 L0 y1 e2) (fs_6_0 t0 ht0) rfl rfl ⟨by decide, by decide⟩ ⟨Nat.le_of_ble_eq_true rfl, Nat.le_of_ble_eq_true rfl⟩ (Nat.le_of_ble_eq_true rfl) dX6_clear_5) ?_
  refine J_call1 (fun y3 e4 => ?_)
  refine jrun_i (pc := 8) (jRunS hX s_X6_193 (As := [jl y1]) (rest := []) (C_J13_bitCount_95d88 Y hz0 y1 I0 L0 y3 e4) rfl rfl ⟨by decide, by decide⟩ ⟨Nat.le_of_ble_eq_true rfl, Nat.le_of_ble_eq_true rfl⟩ (Nat.le_of_ble_eq_true rfl) dX6_clear_8) ?_
  refine J_istore_n (pc := 11) hX (lo' := [(1, ji y3), (0, jr t0)]) (by decide) rfl dX6_clear_11 ?_
  refine J_aload_n (pc := 12) hX 1 rfl dX6_clear_12 ?_
  refine g_X6_10 (pc := 13) hX ht0 dX6_clear_13 ?_
  refine J_call1 (fun I5 e6 => ?_)
  refine jrun_v (pc := 16) (jRunV hX s_X6_165 (ci := 4) (T := TX4) (N := 18) (As := []) (rest := []) rfl (by decide) (C_X4_sweepOut Y hz0 (rfC t0 0) (fs_6_0 t0 ht0) I0 L0 I5 e6) (fs_6_0 t0 ht0) rfl rfl ⟨by decide, by decide⟩ ⟨Nat.le_of_ble_eq_true rfl, Nat.le_of_ble_eq_true rfl⟩ (Nat.le_of_ble_eq_true rfl) dX6_clear_16) ?_
  refine J_iload_n (pc := 19) hX 0 rfl dX6_clear_19 ?_
  exact J_iret (pc := 20) hX (hQ _) dX6_clear_20
theorem C_X6_clear (Y : jY) (hz0 : Y.zf = false) (t0 : Nat) (ht0 : shC t0 = 7) (I0 : jI) (L0 : jL) (r : Int32) (I1 : jI) (h : X6_clear t0 I0 = some (r, I1)) : jMet Y yX6_clear cX6_clear 2 (some .int) 5 175 0 0 [jr t0] NC shC rfC I0 L0 (some (ji r)) NC shC rfC I1 L0 :=
  jmet_of _ _ h (fun Z r => jQ Y Z 0 0 (some (ji r.1)) NC shC rfC r.2 L0) (fun _ => rfl) (by decide) (Nat.le_of_ble_eq_true rfl) (fun Z hX => W_X6_clear hz0 t0 ht0 I0 L0 hX (fun _ => rfl))
def X6_levelOf (t0 : Nat) (p0 : Int32) (p1 : Int32) (I0 : jI) : Option (Int32 × jI) :=
(X4_levelAt (rfC t0 0) p0 I0).bind (fun (x1 : Nat) =>
if x1 = 0 then (
jb2 (X6_refuse t0 (-52 : Int32) I0) (fun (y5 : Int32) (I6 : jI) =>
some (y5, I6)))
else (
(X6_isWithin p1 (0 : Int32) (9 : Int32)).bind (fun (y8 : Int32) =>
if y8 = 0 then (
jb2 (X6_refuse t0 (-52 : Int32) I0) (fun (y13 : Int32) (I14 : jI) =>
some (y13, I14)))
else (
(X2_tells x1 p1 I0).bind (fun (y11 : Int32) =>
some (y11, I0))))))
set_option maxRecDepth 20000 in
set_option maxHeartbeats 4000000 in
theorem W_X6_levelOf {Y : jY} {Z : jZ} {Qf : Int32 × jI → State → Prop} (hz0 : Y.zf = false) (t0 : Nat) (ht0 : shC t0 = 7) (p0 : Int32) (p1 : Int32) (I0 : jI) (L0 : jL) (hX : jOK Y Z RX6 cX6_levelOf 4 "levelOf" (some .int) 4 144 0 0) (hQ : ∀ r : Int32 × jI, Qf r = jQ Y Z 0 0 (some (ji r.1)) NC shC rfC r.2 L0) : J Y Z 4 Qf (X6_levelOf t0 p0 p1 I0) 0 [(0, jr t0), (1, ji p0), (2, ji p1)] [] 0 0 NC shC rfC I0 L0 := by
  unfold X6_levelOf
  refine J_aload_n (pc := 0) hX 0 rfl dX6_levelOf_0 ?_
  refine g_X6_10 (pc := 1) hX ht0 dX6_levelOf_1 ?_
  refine J_iload_n (pc := 4) hX 1 rfl dX6_levelOf_4 ?_
  refine J_call1 (fun x1 e2 => ?_)
  refine jrun_r (pc := 5) (jRunV hX s_X6_113 (ci := 4) (T := TX4) (N := 18) (As := [ji p0]) (rest := []) rfl (by decide) (C_X4_levelAt Y hz0 (rfC t0 0) (fs_6_0 t0 ht0) p0 I0 L0 x1 e2) (fs_6_0 t0 ht0) rfl rfl ⟨by decide, by decide⟩ ⟨Nat.le_of_ble_eq_true rfl, Nat.le_of_ble_eq_true rfl⟩ (Nat.le_of_ble_eq_true rfl) dX6_levelOf_5) ?_
  have t3 := T_X4_levelAt (rfC t0 0) (fs_6_0 t0 ht0) p0 I0 e2
  refine J_astore_n (pc := 8) hX (lo' := [(3, jr x1), (0, jr t0), (1, ji p0), (2, ji p1)]) (by decide) rfl dX6_levelOf_8 ?_
  refine J_aload_n (pc := 9) hX 0 rfl dX6_levelOf_9 ?_
  refine J_ifnull (pc := 10) hX (tgt := 23) (by decide) dX6_levelOf_10 (fun h4 => ?_) (fun h4 => ?_)
  · refine J_aload_n (pc := 23) hX 1 rfl dX6_levelOf_23 ?_
    refine J_bipush (pc := 24) hX (v := (-52 : Int32)) (by decide) dX6_levelOf_24 ?_
    refine J_call2 (fun y5 I6 e7 => ?_)
    refine jrun_i (pc := 26) (jRunV hX s_X6_51 (ci := 6) (T := TX6) (N := 8) (As := [ji (-52 : Int32)]) (rest := []) rfl (by decide) (C_X6_refuse Y hz0 t0 ht0 (-52 : Int32) I0 L0 y5 I6 e7) ht0 rfl rfl ⟨by decide, by decide⟩ ⟨Nat.le_of_ble_eq_true rfl, Nat.le_of_ble_eq_true rfl⟩ (Nat.le_of_ble_eq_true rfl) dX6_levelOf_26) ?_
    exact J_iret (pc := 29) hX (hQ _) dX6_levelOf_29
  · refine J_iload_n (pc := 13) hX 3 rfl dX6_levelOf_13 ?_
    refine J_iconst (pc := 14) hX (v := (0 : Int32)) (by decide) dX6_levelOf_14 ?_
    refine J_bipush (pc := 15) hX (v := (9 : Int32)) (by decide) dX6_levelOf_15 ?_
    refine J_call1 (fun y8 e9 => ?_)
    refine jrun_i (pc := 17) (jRunS hX s_X6_47 (As := [ji p1, ji (0 : Int32), ji (9 : Int32)]) (rest := []) (C_X6_isWithin Y hz0 p1 (0 : Int32) (9 : Int32) I0 L0 y8 e9) rfl rfl ⟨by decide, by decide⟩ ⟨Nat.le_of_ble_eq_true rfl, Nat.le_of_ble_eq_true rfl⟩ (Nat.le_of_ble_eq_true rfl) dX6_levelOf_17) ?_
    refine J_if_ne (pc := 20) hX (tgt := 30) (by decide) dX6_levelOf_20 (fun h10 => ?_) (fun h10 => ?_)
    · refine J_aload_n (pc := 30) hX 0 rfl dX6_levelOf_30 ?_
      refine J_iload_n (pc := 31) hX 3 rfl dX6_levelOf_31 ?_
      refine J_call1 (fun y11 e12 => ?_)
      refine jrun_i (pc := 32) (jRunV hX s_X6_199 (ci := 2) (T := TX2) (N := 19) (As := [ji p1]) (rest := []) rfl (by decide) (C_X2_tells Y hz0 x1 (t3.resolve_left h4) p1 I0 L0 y11 e12) (t3.resolve_left h4) rfl rfl ⟨by decide, by decide⟩ ⟨Nat.le_of_ble_eq_true rfl, Nat.le_of_ble_eq_true rfl⟩ (Nat.le_of_ble_eq_true rfl) dX6_levelOf_32) ?_
      exact J_iret (pc := 35) hX (hQ _) dX6_levelOf_35
    · refine J_aload_n (pc := 23) hX 1 rfl dX6_levelOf_23 ?_
      refine J_bipush (pc := 24) hX (v := (-52 : Int32)) (by decide) dX6_levelOf_24 ?_
      refine J_call2 (fun y13 I14 e15 => ?_)
      refine jrun_i (pc := 26) (jRunV hX s_X6_51 (ci := 6) (T := TX6) (N := 8) (As := [ji (-52 : Int32)]) (rest := []) rfl (by decide) (C_X6_refuse Y hz0 t0 ht0 (-52 : Int32) I0 L0 y13 I14 e15) ht0 rfl rfl ⟨by decide, by decide⟩ ⟨Nat.le_of_ble_eq_true rfl, Nat.le_of_ble_eq_true rfl⟩ (Nat.le_of_ble_eq_true rfl) dX6_levelOf_26) ?_
      exact J_iret (pc := 29) hX (hQ _) dX6_levelOf_29
theorem C_X6_levelOf (Y : jY) (hz0 : Y.zf = false) (t0 : Nat) (ht0 : shC t0 = 7) (p0 : Int32) (p1 : Int32) (I0 : jI) (L0 : jL) (r : Int32) (I1 : jI) (h : X6_levelOf t0 p0 p1 I0 = some (r, I1)) : jMet Y yX6_levelOf cX6_levelOf 4 (some .int) 4 144 0 0 [jr t0, ji p0, ji p1] NC shC rfC I0 L0 (some (ji r)) NC shC rfC I1 L0 :=
  jmet_of _ _ h (fun Z r => jQ Y Z 0 0 (some (ji r.1)) NC shC rfC r.2 L0) (fun _ => rfl) (by decide) (Nat.le_of_ble_eq_true rfl) (fun Z hX => W_X6_levelOf hz0 t0 ht0 p0 p1 I0 L0 hX (fun _ => rfl))
def X6_slot (t0 : Nat) (p0 : Int32) (p1 : Int32) (p2 : Int32) (I0 : jI) : Option (Int32 × jI) :=
(X4_levelAt (rfC t0 0) p0 I0).bind (fun (x1 : Nat) =>
if x1 = 0 then (
jb2 (X6_refuse t0 (-52 : Int32) I0) (fun (y5 : Int32) (I6 : jI) =>
some (y5, I6)))
else (
(X6_isWithin p1 (0 : Int32) ((I0 x1 0) - (1 : Int32))).bind (fun (y8 : Int32) =>
if y8 = 0 then (
jb2 (X6_refuse t0 (-52 : Int32) I0) (fun (y11 : Int32) (I12 : jI) =>
some (y11, I12)))
else (
(X6_isWithin p2 (0 : Int32) (5 : Int32)).bind (fun (y14 : Int32) =>
if y14 = 0 then (
jb2 (X6_refuse t0 (-52 : Int32) I0) (fun (y19 : Int32) (I20 : jI) =>
some (y19, I20)))
else (
(X2_tellsSlot x1 p1 p2 I0).bind (fun (y17 : Int32) =>
some (y17, I0))))))))
set_option maxRecDepth 20000 in
set_option maxHeartbeats 4000000 in
theorem W_X6_slot {Y : jY} {Z : jZ} {Qf : Int32 × jI → State → Prop} (hz0 : Y.zf = false) (t0 : Nat) (ht0 : shC t0 = 7) (p0 : Int32) (p1 : Int32) (p2 : Int32) (I0 : jI) (L0 : jL) (hX : jOK Y Z RX6 cX6_slot 5 "slot" (some .int) 3 124 0 0) (hQ : ∀ r : Int32 × jI, Qf r = jQ Y Z 0 0 (some (ji r.1)) NC shC rfC r.2 L0) : J Y Z 5 Qf (X6_slot t0 p0 p1 p2 I0) 0 [(0, jr t0), (1, ji p0), (2, ji p1), (3, ji p2)] [] 0 0 NC shC rfC I0 L0 := by
  unfold X6_slot
  refine J_aload_n (pc := 0) hX 0 rfl dX6_slot_0 ?_
  refine g_X6_10 (pc := 1) hX ht0 dX6_slot_1 ?_
  refine J_iload_n (pc := 4) hX 1 rfl dX6_slot_4 ?_
  refine J_call1 (fun x1 e2 => ?_)
  refine jrun_r (pc := 5) (jRunV hX s_X6_113 (ci := 4) (T := TX4) (N := 18) (As := [ji p0]) (rest := []) rfl (by decide) (C_X4_levelAt Y hz0 (rfC t0 0) (fs_6_0 t0 ht0) p0 I0 L0 x1 e2) (fs_6_0 t0 ht0) rfl rfl ⟨by decide, by decide⟩ ⟨Nat.le_of_ble_eq_true rfl, Nat.le_of_ble_eq_true rfl⟩ (Nat.le_of_ble_eq_true rfl) dX6_slot_5) ?_
  have t3 := T_X4_levelAt (rfC t0 0) (fs_6_0 t0 ht0) p0 I0 e2
  refine J_astore (pc := 8) hX (lo' := [(4, jr x1), (0, jr t0), (1, ji p0), (2, ji p1), (3, ji p2)]) (by decide) rfl dX6_slot_8 ?_
  refine J_aload (pc := 10) hX 0 rfl dX6_slot_10 ?_
  refine J_ifnull (pc := 12) hX (tgt := 39) (by decide) dX6_slot_12 (fun h4 => ?_) (fun h4 => ?_)
  · refine J_aload_n (pc := 39) hX 1 rfl dX6_slot_39 ?_
    refine J_bipush (pc := 40) hX (v := (-52 : Int32)) (by decide) dX6_slot_40 ?_
    refine J_call2 (fun y5 I6 e7 => ?_)
    refine jrun_i (pc := 42) (jRunV hX s_X6_51 (ci := 6) (T := TX6) (N := 8) (As := [ji (-52 : Int32)]) (rest := []) rfl (by decide) (C_X6_refuse Y hz0 t0 ht0 (-52 : Int32) I0 L0 y5 I6 e7) ht0 rfl rfl ⟨by decide, by decide⟩ ⟨Nat.le_of_ble_eq_true rfl, Nat.le_of_ble_eq_true rfl⟩ (Nat.le_of_ble_eq_true rfl) dX6_slot_42) ?_
    exact J_iret (pc := 45) hX (hQ _) dX6_slot_45
  · refine J_iload_n (pc := 15) hX 3 rfl dX6_slot_15 ?_
    refine J_iconst (pc := 16) hX (v := (0 : Int32)) (by decide) dX6_slot_16 ?_
    refine J_aload (pc := 17) hX 0 rfl dX6_slot_17 ?_
    refine g_X6_202 (pc := 19) hX (t3.resolve_left h4) dX6_slot_19 ?_
    refine J_iconst (pc := 22) hX (v := (1 : Int32)) (by decide) dX6_slot_22 ?_
    refine J_isub (pc := 23) hX dX6_slot_23 ?_
    refine J_call1 (fun y8 e9 => ?_)
    refine jrun_i (pc := 24) (jRunS hX s_X6_47 (As := [ji p1, ji (0 : Int32), ji ((I0 x1 0) - (1 : Int32))]) (rest := []) (C_X6_isWithin Y hz0 p1 (0 : Int32) ((I0 x1 0) - (1 : Int32)) I0 L0 y8 e9) rfl rfl ⟨by decide, by decide⟩ ⟨Nat.le_of_ble_eq_true rfl, Nat.le_of_ble_eq_true rfl⟩ (Nat.le_of_ble_eq_true rfl) dX6_slot_24) ?_
    refine J_if_eq (pc := 27) hX (tgt := 39) (by decide) dX6_slot_27 (fun h10 => ?_) (fun h10 => ?_)
    · refine J_aload_n (pc := 39) hX 1 rfl dX6_slot_39 ?_
      refine J_bipush (pc := 40) hX (v := (-52 : Int32)) (by decide) dX6_slot_40 ?_
      refine J_call2 (fun y11 I12 e13 => ?_)
      refine jrun_i (pc := 42) (jRunV hX s_X6_51 (ci := 6) (T := TX6) (N := 8) (As := [ji (-52 : Int32)]) (rest := []) rfl (by decide) (C_X6_refuse Y hz0 t0 ht0 (-52 : Int32) I0 L0 y11 I12 e13) ht0 rfl rfl ⟨by decide, by decide⟩ ⟨Nat.le_of_ble_eq_true rfl, Nat.le_of_ble_eq_true rfl⟩ (Nat.le_of_ble_eq_true rfl) dX6_slot_42) ?_
      exact J_iret (pc := 45) hX (hQ _) dX6_slot_45
    · refine J_iload_n (pc := 30) hX 4 rfl dX6_slot_30 ?_
      refine J_iconst (pc := 31) hX (v := (0 : Int32)) (by decide) dX6_slot_31 ?_
      refine J_iconst (pc := 32) hX (v := (5 : Int32)) (by decide) dX6_slot_32 ?_
      refine J_call1 (fun y14 e15 => ?_)
      refine jrun_i (pc := 33) (jRunS hX s_X6_47 (As := [ji p2, ji (0 : Int32), ji (5 : Int32)]) (rest := []) (C_X6_isWithin Y hz0 p2 (0 : Int32) (5 : Int32) I0 L0 y14 e15) rfl rfl ⟨by decide, by decide⟩ ⟨Nat.le_of_ble_eq_true rfl, Nat.le_of_ble_eq_true rfl⟩ (Nat.le_of_ble_eq_true rfl) dX6_slot_33) ?_
      refine J_if_ne (pc := 36) hX (tgt := 46) (by decide) dX6_slot_36 (fun h16 => ?_) (fun h16 => ?_)
      · refine J_aload (pc := 46) hX 0 rfl dX6_slot_46 ?_
        refine J_iload_n (pc := 48) hX 3 rfl dX6_slot_48 ?_
        refine J_iload_n (pc := 49) hX 4 rfl dX6_slot_49 ?_
        refine J_call1 (fun y17 e18 => ?_)
        refine jrun_i (pc := 50) (jRunV hX s_X6_203 (ci := 2) (T := TX2) (N := 19) (As := [ji p1, ji p2]) (rest := []) rfl (by decide) (C_X2_tellsSlot Y hz0 x1 (t3.resolve_left h4) p1 p2 I0 L0 y17 e18) (t3.resolve_left h4) rfl rfl ⟨by decide, by decide⟩ ⟨Nat.le_of_ble_eq_true rfl, Nat.le_of_ble_eq_true rfl⟩ (Nat.le_of_ble_eq_true rfl) dX6_slot_50) ?_
        exact J_iret (pc := 53) hX (hQ _) dX6_slot_53
      · refine J_aload_n (pc := 39) hX 1 rfl dX6_slot_39 ?_
        refine J_bipush (pc := 40) hX (v := (-52 : Int32)) (by decide) dX6_slot_40 ?_
        refine J_call2 (fun y19 I20 e21 => ?_)
        refine jrun_i (pc := 42) (jRunV hX s_X6_51 (ci := 6) (T := TX6) (N := 8) (As := [ji (-52 : Int32)]) (rest := []) rfl (by decide) (C_X6_refuse Y hz0 t0 ht0 (-52 : Int32) I0 L0 y19 I20 e21) ht0 rfl rfl ⟨by decide, by decide⟩ ⟨Nat.le_of_ble_eq_true rfl, Nat.le_of_ble_eq_true rfl⟩ (Nat.le_of_ble_eq_true rfl) dX6_slot_42) ?_
        exact J_iret (pc := 45) hX (hQ _) dX6_slot_45
theorem C_X6_slot (Y : jY) (hz0 : Y.zf = false) (t0 : Nat) (ht0 : shC t0 = 7) (p0 : Int32) (p1 : Int32) (p2 : Int32) (I0 : jI) (L0 : jL) (r : Int32) (I1 : jI) (h : X6_slot t0 p0 p1 p2 I0 = some (r, I1)) : jMet Y yX6_slot cX6_slot 5 (some .int) 3 124 0 0 [jr t0, ji p0, ji p1, ji p2] NC shC rfC I0 L0 (some (ji r)) NC shC rfC I1 L0 :=
  jmet_of _ _ h (fun Z r => jQ Y Z 0 0 (some (ji r.1)) NC shC rfC r.2 L0) (fun _ => rfl) (by decide) (Nat.le_of_ble_eq_true rfl) (fun Z hX => W_X6_slot hz0 t0 ht0 p0 p1 p2 I0 L0 hX (fun _ => rfl))
def X6_value (t0 : Nat) (p0 : Int32) (p1 : Int32) (I0 : jI) : Option (Int32 × jI) :=
(X6_isWithin p0 (0 : Int32) (I0 (rfC t0 0) 1)).bind (fun (y1 : Int32) =>
if y1 = 0 then (
jb2 (X6_refuse t0 (-52 : Int32) I0) (fun (y4 : Int32) (I5 : jI) =>
some (y4, I5)))
else (
(X6_isPage p1).bind (fun (y7 : Int32) =>
if y7 = 0 then (
jb2 (X6_refuse t0 (-52 : Int32) I0) (fun (y30 : Int32) (I31 : jI) =>
some (y30, I31)))
else (
if p0 = 0 then (
(X4_inMemory (rfC t0 0) p1 I0).bind (fun (y28 : Int32) =>
some (y28, I0)))
else (
(X4_levelAt (rfC t0 0) p0 I0).bind (fun (x11 : Nat) =>
if x11 = 0 then (
jb2 (X6_refuse t0 (-55 : Int32) I0) (fun (y15 : Int32) (I16 : jI) =>
some (y15, I16)))
else (
(X2_slotOf x11 p1 I0).bind (fun (y18 : Int32) =>
if y18 = (-1 : Int32) then (
jb2 (X6_refuse t0 (-55 : Int32) I0) (fun (y25 : Int32) (I26 : jI) =>
some (y25, I26)))
else (
(X2_slotOf x11 p1 I0).bind (fun (y21 : Int32) =>
(X2_valueIn x11 y21 I0).bind (fun (y23 : Int32) =>
some (y23, I0))))))))))))
set_option maxRecDepth 20000 in
set_option maxHeartbeats 4000000 in
theorem W_X6_value {Y : jY} {Z : jZ} {Qf : Int32 × jI → State → Prop} (hz0 : Y.zf = false) (t0 : Nat) (ht0 : shC t0 = 7) (p0 : Int32) (p1 : Int32) (I0 : jI) (L0 : jL) (hX : jOK Y Z RX6 cX6_value 4 "value" (some .int) 3 124 0 0) (hQ : ∀ r : Int32 × jI, Qf r = jQ Y Z 0 0 (some (ji r.1)) NC shC rfC r.2 L0) : J Y Z 4 Qf (X6_value t0 p0 p1 I0) 0 [(0, jr t0), (1, ji p0), (2, ji p1)] [] 0 0 NC shC rfC I0 L0 := by
  unfold X6_value
  refine J_iload_n (pc := 0) hX 1 rfl dX6_value_0 ?_
  refine J_iconst (pc := 1) hX (v := (0 : Int32)) (by decide) dX6_value_1 ?_
  refine J_aload_n (pc := 2) hX 0 rfl dX6_value_2 ?_
  refine g_X6_10 (pc := 3) hX ht0 dX6_value_3 ?_
  refine g_X6_103 (pc := 6) hX (fs_6_0 t0 ht0) dX6_value_6 ?_
  refine J_call1 (fun y1 e2 => ?_)
  refine jrun_i (pc := 9) (jRunS hX s_X6_47 (As := [ji p0, ji (0 : Int32), ji (I0 (rfC t0 0) 1)]) (rest := []) (C_X6_isWithin Y hz0 p0 (0 : Int32) (I0 (rfC t0 0) 1) I0 L0 y1 e2) rfl rfl ⟨by decide, by decide⟩ ⟨Nat.le_of_ble_eq_true rfl, Nat.le_of_ble_eq_true rfl⟩ (Nat.le_of_ble_eq_true rfl) dX6_value_9) ?_
  refine J_if_eq (pc := 12) hX (tgt := 22) (by decide) dX6_value_12 (fun h3 => ?_) (fun h3 => ?_)
  · refine J_aload_n (pc := 22) hX 0 rfl dX6_value_22 ?_
    refine J_bipush (pc := 23) hX (v := (-52 : Int32)) (by decide) dX6_value_23 ?_
    refine J_call2 (fun y4 I5 e6 => ?_)
    refine jrun_i (pc := 25) (jRunV hX s_X6_51 (ci := 6) (T := TX6) (N := 8) (As := [ji (-52 : Int32)]) (rest := []) rfl (by decide) (C_X6_refuse Y hz0 t0 ht0 (-52 : Int32) I0 L0 y4 I5 e6) ht0 rfl rfl ⟨by decide, by decide⟩ ⟨Nat.le_of_ble_eq_true rfl, Nat.le_of_ble_eq_true rfl⟩ (Nat.le_of_ble_eq_true rfl) dX6_value_25) ?_
    exact J_iret (pc := 28) hX (hQ _) dX6_value_28
  · refine J_iload_n (pc := 15) hX 2 rfl dX6_value_15 ?_
    refine J_call1 (fun y7 e8 => ?_)
    refine jrun_i (pc := 16) (jRunS hX s_X6_184 (As := [ji p1]) (rest := []) (C_X6_isPage Y hz0 p1 I0 L0 y7 e8) rfl rfl ⟨by decide, by decide⟩ ⟨Nat.le_of_ble_eq_true rfl, Nat.le_of_ble_eq_true rfl⟩ (Nat.le_of_ble_eq_true rfl) dX6_value_16) ?_
    refine J_if_ne (pc := 19) hX (tgt := 29) (by decide) dX6_value_19 (fun h9 => ?_) (fun h9 => ?_)
    · refine J_iload_n (pc := 29) hX 1 rfl dX6_value_29 ?_
      refine J_if_ne (pc := 30) hX (tgt := 42) (by decide) dX6_value_30 (fun h10 => ?_) (fun h10 => ?_)
      · refine J_aload_n (pc := 42) hX 0 rfl dX6_value_42 ?_
        refine g_X6_10 (pc := 43) hX ht0 dX6_value_43 ?_
        refine J_iload_n (pc := 46) hX 1 rfl dX6_value_46 ?_
        refine J_call1 (fun x11 e12 => ?_)
        refine jrun_r (pc := 47) (jRunV hX s_X6_113 (ci := 4) (T := TX4) (N := 18) (As := [ji p0]) (rest := []) rfl (by decide) (C_X4_levelAt Y hz0 (rfC t0 0) (fs_6_0 t0 ht0) p0 I0 L0 x11 e12) (fs_6_0 t0 ht0) rfl rfl ⟨by decide, by decide⟩ ⟨Nat.le_of_ble_eq_true rfl, Nat.le_of_ble_eq_true rfl⟩ (Nat.le_of_ble_eq_true rfl) dX6_value_47) ?_
        have t13 := T_X4_levelAt (rfC t0 0) (fs_6_0 t0 ht0) p0 I0 e12
        refine J_astore_n (pc := 50) hX (lo' := [(3, jr x11), (0, jr t0), (1, ji p0), (2, ji p1)]) (by decide) rfl dX6_value_50 ?_
        refine J_aload_n (pc := 51) hX 0 rfl dX6_value_51 ?_
        refine J_ifnull (pc := 52) hX (tgt := 64) (by decide) dX6_value_52 (fun h14 => ?_) (fun h14 => ?_)
        · refine J_aload_n (pc := 64) hX 1 rfl dX6_value_64 ?_
          refine J_bipush (pc := 65) hX (v := (-55 : Int32)) (by decide) dX6_value_65 ?_
          refine J_call2 (fun y15 I16 e17 => ?_)
          refine jrun_i (pc := 67) (jRunV hX s_X6_51 (ci := 6) (T := TX6) (N := 8) (As := [ji (-55 : Int32)]) (rest := []) rfl (by decide) (C_X6_refuse Y hz0 t0 ht0 (-55 : Int32) I0 L0 y15 I16 e17) ht0 rfl rfl ⟨by decide, by decide⟩ ⟨Nat.le_of_ble_eq_true rfl, Nat.le_of_ble_eq_true rfl⟩ (Nat.le_of_ble_eq_true rfl) dX6_value_67) ?_
          exact J_iret (pc := 70) hX (hQ _) dX6_value_70
        · refine J_aload_n (pc := 55) hX 0 rfl dX6_value_55 ?_
          refine J_iload_n (pc := 56) hX 3 rfl dX6_value_56 ?_
          refine J_call1 (fun y18 e19 => ?_)
          refine jrun_i (pc := 57) (jRunV hX s_X6_210 (ci := 2) (T := TX2) (N := 19) (As := [ji p1]) (rest := []) rfl (by decide) (C_X2_slotOf Y hz0 x11 (t13.resolve_left h14) p1 I0 L0 y18 e19) (t13.resolve_left h14) rfl rfl ⟨by decide, by decide⟩ ⟨Nat.le_of_ble_eq_true rfl, Nat.le_of_ble_eq_true rfl⟩ (Nat.le_of_ble_eq_true rfl) dX6_value_57) ?_
          refine J_iconst (pc := 60) hX (v := (-1 : Int32)) (by decide) dX6_value_60 ?_
          refine J_icmp_ne (pc := 61) hX (tgt := 71) (by decide) dX6_value_61 (fun h20 => ?_) (fun h20 => ?_)
          · refine J_aload_n (pc := 71) hX 0 rfl dX6_value_71 ?_
            refine J_aload_n (pc := 72) hX 0 rfl dX6_value_72 ?_
            refine J_iload_n (pc := 73) hX 3 rfl dX6_value_73 ?_
            refine J_call1 (fun y21 e22 => ?_)
            refine jrun_i (pc := 74) (jRunV hX s_X6_210 (ci := 2) (T := TX2) (N := 19) (As := [ji p1]) (rest := [jr x11]) rfl (by decide) (C_X2_slotOf Y hz0 x11 (t13.resolve_left h14) p1 I0 L0 y21 e22) (t13.resolve_left h14) rfl rfl ⟨by decide, by decide⟩ ⟨Nat.le_of_ble_eq_true rfl, Nat.le_of_ble_eq_true rfl⟩ (Nat.le_of_ble_eq_true rfl) dX6_value_74) ?_
            refine J_call1 (fun y23 e24 => ?_)
            refine jrun_i (pc := 77) (jRunV hX s_X6_213 (ci := 2) (T := TX2) (N := 19) (As := [ji y21]) (rest := []) rfl (by decide) (C_X2_valueIn Y hz0 x11 (t13.resolve_left h14) y21 I0 L0 y23 e24) (t13.resolve_left h14) rfl rfl ⟨by decide, by decide⟩ ⟨Nat.le_of_ble_eq_true rfl, Nat.le_of_ble_eq_true rfl⟩ (Nat.le_of_ble_eq_true rfl) dX6_value_77) ?_
            exact J_iret (pc := 80) hX (hQ _) dX6_value_80
          · refine J_aload_n (pc := 64) hX 1 rfl dX6_value_64 ?_
            refine J_bipush (pc := 65) hX (v := (-55 : Int32)) (by decide) dX6_value_65 ?_
            refine J_call2 (fun y25 I26 e27 => ?_)
            refine jrun_i (pc := 67) (jRunV hX s_X6_51 (ci := 6) (T := TX6) (N := 8) (As := [ji (-55 : Int32)]) (rest := []) rfl (by decide) (C_X6_refuse Y hz0 t0 ht0 (-55 : Int32) I0 L0 y25 I26 e27) ht0 rfl rfl ⟨by decide, by decide⟩ ⟨Nat.le_of_ble_eq_true rfl, Nat.le_of_ble_eq_true rfl⟩ (Nat.le_of_ble_eq_true rfl) dX6_value_67) ?_
            exact J_iret (pc := 70) hX (hQ _) dX6_value_70
      · refine J_aload_n (pc := 33) hX 0 rfl dX6_value_33 ?_
        refine g_X6_10 (pc := 34) hX ht0 dX6_value_34 ?_
        refine J_iload_n (pc := 37) hX 2 rfl dX6_value_37 ?_
        refine J_call1 (fun y28 e29 => ?_)
        refine jrun_i (pc := 38) (jRunV hX s_X6_207 (ci := 4) (T := TX4) (N := 18) (As := [ji p1]) (rest := []) rfl (by decide) (C_X4_inMemory Y hz0 (rfC t0 0) (fs_6_0 t0 ht0) p1 I0 L0 y28 e29) (fs_6_0 t0 ht0) rfl rfl ⟨by decide, by decide⟩ ⟨Nat.le_of_ble_eq_true rfl, Nat.le_of_ble_eq_true rfl⟩ (Nat.le_of_ble_eq_true rfl) dX6_value_38) ?_
        exact J_iret (pc := 41) hX (hQ _) dX6_value_41
    · refine J_aload_n (pc := 22) hX 0 rfl dX6_value_22 ?_
      refine J_bipush (pc := 23) hX (v := (-52 : Int32)) (by decide) dX6_value_23 ?_
      refine J_call2 (fun y30 I31 e32 => ?_)
      refine jrun_i (pc := 25) (jRunV hX s_X6_51 (ci := 6) (T := TX6) (N := 8) (As := [ji (-52 : Int32)]) (rest := []) rfl (by decide) (C_X6_refuse Y hz0 t0 ht0 (-52 : Int32) I0 L0 y30 I31 e32) ht0 rfl rfl ⟨by decide, by decide⟩ ⟨Nat.le_of_ble_eq_true rfl, Nat.le_of_ble_eq_true rfl⟩ (Nat.le_of_ble_eq_true rfl) dX6_value_25) ?_
      exact J_iret (pc := 28) hX (hQ _) dX6_value_28
theorem C_X6_value (Y : jY) (hz0 : Y.zf = false) (t0 : Nat) (ht0 : shC t0 = 7) (p0 : Int32) (p1 : Int32) (I0 : jI) (L0 : jL) (r : Int32) (I1 : jI) (h : X6_value t0 p0 p1 I0 = some (r, I1)) : jMet Y yX6_value cX6_value 4 (some .int) 3 124 0 0 [jr t0, ji p0, ji p1] NC shC rfC I0 L0 (some (ji r)) NC shC rfC I1 L0 :=
  jmet_of _ _ h (fun Z r => jQ Y Z 0 0 (some (ji r.1)) NC shC rfC r.2 L0) (fun _ => rfl) (by decide) (Nat.le_of_ble_eq_true rfl) (fun Z hX => W_X6_value hz0 t0 ht0 p0 p1 I0 L0 hX (fun _ => rfl))
def X6_where (t0 : Nat) (p0 : Int32) (I0 : jI) : Option (Int32 × jI) :=
(X6_isPage p0).bind (fun (y1 : Int32) =>
if y1 = 0 then (
jb2 (X6_refuse t0 (-52 : Int32) I0) (fun (y6 : Int32) (I7 : jI) =>
some (y6, I7)))
else (
(X4_levelsWith (rfC t0 0) p0 I0).bind (fun (y4 : Int32) =>
some (y4, I0))))
set_option maxRecDepth 20000 in
set_option maxHeartbeats 4000000 in
theorem W_X6_where {Y : jY} {Z : jZ} {Qf : Int32 × jI → State → Prop} (hz0 : Y.zf = false) (t0 : Nat) (ht0 : shC t0 = 7) (p0 : Int32) (I0 : jI) (L0 : jL) (hX : jOK Y Z RX6 cX6_where 2 "where" (some .int) 3 125 0 0) (hQ : ∀ r : Int32 × jI, Qf r = jQ Y Z 0 0 (some (ji r.1)) NC shC rfC r.2 L0) : J Y Z 2 Qf (X6_where t0 p0 I0) 0 [(0, jr t0), (1, ji p0)] [] 0 0 NC shC rfC I0 L0 := by
  unfold X6_where
  refine J_iload_n (pc := 0) hX 1 rfl dX6_where_0 ?_
  refine J_call1 (fun y1 e2 => ?_)
  refine jrun_i (pc := 1) (jRunS hX s_X6_184 (As := [ji p0]) (rest := []) (C_X6_isPage Y hz0 p0 I0 L0 y1 e2) rfl rfl ⟨by decide, by decide⟩ ⟨Nat.le_of_ble_eq_true rfl, Nat.le_of_ble_eq_true rfl⟩ (Nat.le_of_ble_eq_true rfl) dX6_where_1) ?_
  refine J_if_ne (pc := 4) hX (tgt := 14) (by decide) dX6_where_4 (fun h3 => ?_) (fun h3 => ?_)
  · refine J_aload_n (pc := 14) hX 0 rfl dX6_where_14 ?_
    refine g_X6_10 (pc := 15) hX ht0 dX6_where_15 ?_
    refine J_iload_n (pc := 18) hX 1 rfl dX6_where_18 ?_
    refine J_call1 (fun y4 e5 => ?_)
    refine jrun_i (pc := 19) (jRunV hX s_X6_216 (ci := 4) (T := TX4) (N := 18) (As := [ji p0]) (rest := []) rfl (by decide) (C_X4_levelsWith Y hz0 (rfC t0 0) (fs_6_0 t0 ht0) p0 I0 L0 y4 e5) (fs_6_0 t0 ht0) rfl rfl ⟨by decide, by decide⟩ ⟨Nat.le_of_ble_eq_true rfl, Nat.le_of_ble_eq_true rfl⟩ (Nat.le_of_ble_eq_true rfl) dX6_where_19) ?_
    exact J_iret (pc := 22) hX (hQ _) dX6_where_22
  · refine J_aload_n (pc := 7) hX 0 rfl dX6_where_7 ?_
    refine J_bipush (pc := 8) hX (v := (-52 : Int32)) (by decide) dX6_where_8 ?_
    refine J_call2 (fun y6 I7 e8 => ?_)
    refine jrun_i (pc := 10) (jRunV hX s_X6_51 (ci := 6) (T := TX6) (N := 8) (As := [ji (-52 : Int32)]) (rest := []) rfl (by decide) (C_X6_refuse Y hz0 t0 ht0 (-52 : Int32) I0 L0 y6 I7 e8) ht0 rfl rfl ⟨by decide, by decide⟩ ⟨Nat.le_of_ble_eq_true rfl, Nat.le_of_ble_eq_true rfl⟩ (Nat.le_of_ble_eq_true rfl) dX6_where_10) ?_
    exact J_iret (pc := 13) hX (hQ _) dX6_where_13
theorem C_X6_where (Y : jY) (hz0 : Y.zf = false) (t0 : Nat) (ht0 : shC t0 = 7) (p0 : Int32) (I0 : jI) (L0 : jL) (r : Int32) (I1 : jI) (h : X6_where t0 p0 I0 = some (r, I1)) : jMet Y yX6_where cX6_where 2 (some .int) 3 125 0 0 [jr t0, ji p0] NC shC rfC I0 L0 (some (ji r)) NC shC rfC I1 L0 :=
  jmet_of _ _ h (fun Z r => jQ Y Z 0 0 (some (ji r.1)) NC shC rfC r.2 L0) (fun _ => rfl) (by decide) (Nat.le_of_ble_eq_true rfl) (fun Z hX => W_X6_where hz0 t0 ht0 p0 I0 L0 hX (fun _ => rfl))
def X6_pages (t0 : Nat) (p0 : Int32) (I0 : jI) : Option (Int64 × jI) :=
(X6_isWithin p0 (0 : Int32) (I0 (rfC t0 0) 1)).bind (fun (y1 : Int32) =>
if y1 = 0 then (
jb2 (X6_refuse t0 (-52 : Int32) I0) (fun (y6 : Int32) (I7 : jI) =>
some (((y6).toInt64 - (9000000000000000000 : Int64)), I7)))
else (
(X4_pagesIn (rfC t0 0) p0 I0).bind (fun (y4 : Int64) =>
some (y4, I0))))
set_option maxRecDepth 20000 in
set_option maxHeartbeats 4000000 in
theorem W_X6_pages {Y : jY} {Z : jZ} {Qf : Int64 × jI → State → Prop} (hz0 : Y.zf = false) (t0 : Nat) (ht0 : shC t0 = 7) (p0 : Int32) (I0 : jI) (L0 : jL) (hX : jOK Y Z RX6 cX6_pages 2 "pages" (some .long) 4 150 0 0) (hQ : ∀ r : Int64 × jI, Qf r = jQ Y Z 0 0 (some (jl r.1)) NC shC rfC r.2 L0) : J Y Z 2 Qf (X6_pages t0 p0 I0) 0 [(0, jr t0), (1, ji p0)] [] 0 0 NC shC rfC I0 L0 := by
  unfold X6_pages
  refine J_iload_n (pc := 0) hX 1 rfl dX6_pages_0 ?_
  refine J_iconst (pc := 1) hX (v := (0 : Int32)) (by decide) dX6_pages_1 ?_
  refine J_aload_n (pc := 2) hX 0 rfl dX6_pages_2 ?_
  refine g_X6_10 (pc := 3) hX ht0 dX6_pages_3 ?_
  refine g_X6_103 (pc := 6) hX (fs_6_0 t0 ht0) dX6_pages_6 ?_
  refine J_call1 (fun y1 e2 => ?_)
  refine jrun_i (pc := 9) (jRunS hX s_X6_47 (As := [ji p0, ji (0 : Int32), ji (I0 (rfC t0 0) 1)]) (rest := []) (C_X6_isWithin Y hz0 p0 (0 : Int32) (I0 (rfC t0 0) 1) I0 L0 y1 e2) rfl rfl ⟨by decide, by decide⟩ ⟨Nat.le_of_ble_eq_true rfl, Nat.le_of_ble_eq_true rfl⟩ (Nat.le_of_ble_eq_true rfl) dX6_pages_9) ?_
  refine J_if_ne (pc := 12) hX (tgt := 27) (by decide) dX6_pages_12 (fun h3 => ?_) (fun h3 => ?_)
  · refine J_aload_n (pc := 27) hX 0 rfl dX6_pages_27 ?_
    refine g_X6_10 (pc := 28) hX ht0 dX6_pages_28 ?_
    refine J_iload_n (pc := 31) hX 1 rfl dX6_pages_31 ?_
    refine J_call1 (fun y4 e5 => ?_)
    refine jrun_l (pc := 32) (jRunV hX s_X6_190 (ci := 4) (T := TX4) (N := 18) (As := [ji p0]) (rest := []) rfl (by decide) (C_X4_pagesIn Y hz0 (rfC t0 0) (fs_6_0 t0 ht0) p0 I0 L0 y4 e5) (fs_6_0 t0 ht0) rfl rfl ⟨by decide, by decide⟩ ⟨Nat.le_of_ble_eq_true rfl, Nat.le_of_ble_eq_true rfl⟩ (Nat.le_of_ble_eq_true rfl) dX6_pages_32) ?_
    exact J_lret (pc := 35) hX (hQ _) dX6_pages_35
  · refine J_aload_n (pc := 15) hX 0 rfl dX6_pages_15 ?_
    refine J_bipush (pc := 16) hX (v := (-52 : Int32)) (by decide) dX6_pages_16 ?_
    refine J_call2 (fun y6 I7 e8 => ?_)
    refine jrun_i (pc := 18) (jRunV hX s_X6_51 (ci := 6) (T := TX6) (N := 8) (As := [ji (-52 : Int32)]) (rest := []) rfl (by decide) (C_X6_refuse Y hz0 t0 ht0 (-52 : Int32) I0 L0 y6 I7 e8) ht0 rfl rfl ⟨by decide, by decide⟩ ⟨Nat.le_of_ble_eq_true rfl, Nat.le_of_ble_eq_true rfl⟩ (Nat.le_of_ble_eq_true rfl) dX6_pages_18) ?_
    refine J_i2l (pc := 21) hX dX6_pages_21 ?_
    refine J_ldc2 (pc := 22) hX q_X6_219 dX6_pages_22 ?_
    refine J_lsub (pc := 25) hX dX6_pages_25 ?_
    exact J_lret (pc := 26) hX (hQ _) dX6_pages_26
theorem C_X6_pages (Y : jY) (hz0 : Y.zf = false) (t0 : Nat) (ht0 : shC t0 = 7) (p0 : Int32) (I0 : jI) (L0 : jL) (r : Int64) (I1 : jI) (h : X6_pages t0 p0 I0 = some (r, I1)) : jMet Y yX6_pages cX6_pages 2 (some .long) 4 150 0 0 [jr t0, ji p0] NC shC rfC I0 L0 (some (jl r)) NC shC rfC I1 L0 :=
  jmet_of _ _ h (fun Z r => jQ Y Z 0 0 (some (jl r.1)) NC shC rfC r.2 L0) (fun _ => rfl) (by decide) (Nat.le_of_ble_eq_true rfl) (fun Z hX => W_X6_pages hz0 t0 ht0 p0 I0 L0 hX (fun _ => rfl))
def X6_differ_F1 (t0 : Nat) (p0 : Int32) (I0 : jI) (g6 : Int64 → Int32 → Option (Int64 × jI)) : Int64 → Int32 → Option (Int64 × jI) := fun (v4 : Int64) (v5 : Int32) =>
if (64 : Int32) ≤ v5 then (
some (v4, I0))
else (
(X4_differs (rfC t0 0) v5 p0 I0).bind (fun (y8 : Int32) =>
jlet (fun (v10 : Int64) =>
g6 v10 (v5 + (1 : Int32))) (fun (k11 : Int64 → Option (Int64 × jI)) =>
if y8 = 0 then (
k11 v4)
else (
jlet ((v4 ||| (jlshl (1 : Int64) v5))) (fun (y13 : Int64) =>
k11 y13)))))
def X6_differ (t0 : Nat) (p0 : Int32) (I0 : jI) : Option (Int64 × jI) :=
(X6_isWithin p0 (0 : Int32) (2 : Int32)).bind (fun (y1 : Int32) =>
if y1 = 0 then (
jb2 (X6_refuse t0 (-52 : Int32) I0) (fun (y14 : Int32) (I15 : jI) =>
some (((y14).toInt64 - (9000000000000000000 : Int64)), I15)))
else (
jfx (X6_differ_F1 t0 p0 I0) (fun _ _ => none) 1000 (0 : Int64) (0 : Int32)))
set_option maxRecDepth 20000 in
set_option maxHeartbeats 4000000 in
theorem W_X6_differ {Y : jY} {Z : jZ} {Qf : Int64 × jI → State → Prop} (hz0 : Y.zf = false) (t0 : Nat) (ht0 : shC t0 = 7) (p0 : Int32) (I0 : jI) (L0 : jL) (hX : jOK Y Z RX6 cX6_differ 5 "differ" (some .long) 4 149 0 0) (hQ : ∀ r : Int64 × jI, Qf r = jQ Y Z 0 0 (some (jl r.1)) NC shC rfC r.2 L0) : J Y Z 5 Qf (X6_differ t0 p0 I0) 0 [(0, jr t0), (1, ji p0)] [] 0 0 NC shC rfC I0 L0 := by
  unfold X6_differ
  refine J_iload_n (pc := 0) hX 1 rfl dX6_differ_0 ?_
  refine J_iconst (pc := 1) hX (v := (0 : Int32)) (by decide) dX6_differ_1 ?_
  refine J_iconst (pc := 2) hX (v := (2 : Int32)) (by decide) dX6_differ_2 ?_
  refine J_call1 (fun y1 e2 => ?_)
  refine jrun_i (pc := 3) (jRunS hX s_X6_47 (As := [ji p0, ji (0 : Int32), ji (2 : Int32)]) (rest := []) (C_X6_isWithin Y hz0 p0 (0 : Int32) (2 : Int32) I0 L0 y1 e2) rfl rfl ⟨by decide, by decide⟩ ⟨Nat.le_of_ble_eq_true rfl, Nat.le_of_ble_eq_true rfl⟩ (Nat.le_of_ble_eq_true rfl) dX6_differ_3) ?_
  refine J_if_ne (pc := 6) hX (tgt := 21) (by decide) dX6_differ_6 (fun h3 => ?_) (fun h3 => ?_)
  · refine J_lconst (pc := 21) hX (v := (0 : Int64)) (by decide) dX6_differ_21 ?_
    refine J_lstore_n (pc := 22) hX (lo' := [(2, jl (0 : Int64)), (0, jr t0), (1, ji p0)]) (by decide) rfl dX6_differ_22 ?_
    refine J_iconst (pc := 23) hX (v := (0 : Int32)) (by decide) dX6_differ_23 ?_
    refine J_istore (pc := 24) hX (lo' := [(4, ji (0 : Int32)), (2, jl (0 : Int64)), (0, jr t0), (1, ji p0)]) (by decide) rfl dX6_differ_24 ?_
    have lhg6 : ∀ mq : Nat, ∀ (v4 : Int64) (v5 : Int32), J Y Z 5 Qf (jfx (X6_differ_F1 t0 p0 I0) (fun _ _ => none) mq v4 v5) 26 [(0, jr t0), (1, ji p0), (2, jl v4), (4, ji v5)] [] 0 0 NC shC rfC I0 L0 := by
      intro mq
      refine jfx_J (fun (_ : Nat) (g6 : Int64 → Int32 → Option (Int64 × jI)) => ∀ (v4 : Int64) (v5 : Int32), J Y Z 5 Qf (g6 v4 v5) 26 [(0, jr t0), (1, ji p0), (2, jl v4), (4, ji v5)] [] 0 0 NC shC rfC I0 L0) ?_ (fun _ g6 hg6 => ?_) mq
      · intro v4 v5
        exact J_none
      intro v4 v5
      unfold X6_differ_F1
      try dsimp only
      refine J_iload (pc := 26) hX 3 rfl dX6_differ_26 ?_
      refine J_bipush (pc := 28) hX (v := (64 : Int32)) (by decide) dX6_differ_28 ?_
      refine J_icmp_ge (pc := 30) hX (tgt := 59) (by decide) dX6_differ_30 (fun h7 => ?_) (fun h7 => ?_)
      · refine J_lload_n (pc := 59) hX 2 rfl dX6_differ_59 ?_
        exact J_lret (pc := 60) hX (hQ _) dX6_differ_60
      · refine J_aload_n (pc := 33) hX 0 rfl dX6_differ_33 ?_
        refine g_X6_10 (pc := 34) hX ht0 dX6_differ_34 ?_
        refine J_iload (pc := 37) hX 3 rfl dX6_differ_37 ?_
        refine J_iload_n (pc := 39) hX 1 rfl dX6_differ_39 ?_
        refine J_call1 (fun y8 e9 => ?_)
        refine jrun_i (pc := 40) (jRunV hX s_X6_221 (ci := 4) (T := TX4) (N := 18) (As := [ji v5, ji p0]) (rest := []) rfl (by decide) (C_X4_differs Y hz0 (rfC t0 0) (fs_6_0 t0 ht0) v5 p0 I0 L0 y8 e9) (fs_6_0 t0 ht0) rfl rfl ⟨by decide, by decide⟩ ⟨Nat.le_of_ble_eq_true rfl, Nat.le_of_ble_eq_true rfl⟩ (Nat.le_of_ble_eq_true rfl) dX6_differ_40) ?_
        refine J_join (fun (k11 : Int64 → Option (Int64 × jI)) => ∀ (v10 : Int64), J Y Z 5 Qf (k11 v10) 53 [(0, jr t0), (1, ji p0), (2, jl v10), (4, ji v5)] [] 0 0 NC shC rfC I0 L0) ?_ (fun k11 hk11 => ?_)
        · intro v10
          try dsimp only
          refine J_iinc (pc := 53) hX (v := (v5 + (1 : Int32))) (lo' := [(4, ji (v5 + (1 : Int32))), (0, jr t0), (1, ji p0), (2, jl v10)]) 3 rfl (by rfl) (by decide) rfl dX6_differ_53 ?_
          refine J_goto (pc := 56) hX (tgt := 26) (by decide) dX6_differ_56 ?_
          refine J_sub [1, 2, 3, 0] rfl ?_
          exact hg6 v10 (v5 + (1 : Int32))
        refine J_if_eq (pc := 43) hX (tgt := 53) (by decide) dX6_differ_43 (fun h12 => ?_) (fun h12 => ?_)
        · exact hk11 v4
        · refine J_lload_n (pc := 46) hX 2 rfl dX6_differ_46 ?_
          refine J_lconst (pc := 47) hX (v := (1 : Int64)) (by decide) dX6_differ_47 ?_
          refine J_iload (pc := 48) hX 3 rfl dX6_differ_48 ?_
          refine J_lshl (pc := 50) hX dX6_differ_50 ?_
          refine J_lor (pc := 51) hX dX6_differ_51 ?_
          refine J_letl (fun y13 => ?_)
          refine J_lstore_n (pc := 52) hX (lo' := [(2, jl y13), (0, jr t0), (1, ji p0), (4, ji v5)]) (by decide) rfl dX6_differ_52 ?_
          refine J_sub [1, 2, 0, 3] rfl ?_
          exact hk11 y13
    refine J_sub [2, 3, 1, 0] rfl ?_
    exact lhg6 1000 (0 : Int64) (0 : Int32)
  · refine J_aload_n (pc := 9) hX 0 rfl dX6_differ_9 ?_
    refine J_bipush (pc := 10) hX (v := (-52 : Int32)) (by decide) dX6_differ_10 ?_
    refine J_call2 (fun y14 I15 e16 => ?_)
    refine jrun_i (pc := 12) (jRunV hX s_X6_51 (ci := 6) (T := TX6) (N := 8) (As := [ji (-52 : Int32)]) (rest := []) rfl (by decide) (C_X6_refuse Y hz0 t0 ht0 (-52 : Int32) I0 L0 y14 I15 e16) ht0 rfl rfl ⟨by decide, by decide⟩ ⟨Nat.le_of_ble_eq_true rfl, Nat.le_of_ble_eq_true rfl⟩ (Nat.le_of_ble_eq_true rfl) dX6_differ_12) ?_
    refine J_i2l (pc := 15) hX dX6_differ_15 ?_
    refine J_ldc2 (pc := 16) hX q_X6_219 dX6_differ_16 ?_
    refine J_lsub (pc := 19) hX dX6_differ_19 ?_
    exact J_lret (pc := 20) hX (hQ _) dX6_differ_20
theorem C_X6_differ (Y : jY) (hz0 : Y.zf = false) (t0 : Nat) (ht0 : shC t0 = 7) (p0 : Int32) (I0 : jI) (L0 : jL) (r : Int64) (I1 : jI) (h : X6_differ t0 p0 I0 = some (r, I1)) : jMet Y yX6_differ cX6_differ 5 (some .long) 4 149 0 0 [jr t0, ji p0] NC shC rfC I0 L0 (some (jl r)) NC shC rfC I1 L0 :=
  jmet_of _ _ h (fun Z r => jQ Y Z 0 0 (some (jl r.1)) NC shC rfC r.2 L0) (fun _ => rfl) (by decide) (Nat.le_of_ble_eq_true rfl) (fun Z hX => W_X6_differ hz0 t0 ht0 p0 I0 L0 hX (fun _ => rfl))
def X6_kept (t0 : Nat) (I0 : jI) : Option (Int32) :=
(X4_keepsMode (rfC t0 0) I0).bind (fun (y1 : Int32) =>
if y1 = 0 then (
some (0 : Int32))
else (
some (1 : Int32)))
set_option maxRecDepth 20000 in
set_option maxHeartbeats 4000000 in
theorem W_X6_kept {Y : jY} {Z : jZ} {Qf : Int32 → State → Prop} (hz0 : Y.zf = false) (t0 : Nat) (ht0 : shC t0 = 7) (I0 : jI) (L0 : jL) (hX : jOK Y Z RX6 cX6_kept 1 "kept" (some .int) 4 147 0 0) (hQ : ∀ r : Int32, Qf r = jQ Y Z 0 0 (some (ji r)) NC shC rfC I0 L0) : J Y Z 1 Qf (X6_kept t0 I0) 0 [(0, jr t0)] [] 0 0 NC shC rfC I0 L0 := by
  unfold X6_kept
  refine J_aload_n (pc := 0) hX 0 rfl dX6_kept_0 ?_
  refine g_X6_10 (pc := 1) hX ht0 dX6_kept_1 ?_
  refine J_call1 (fun y1 e2 => ?_)
  refine jrun_i (pc := 4) (jRunV hX s_X6_224 (ci := 4) (T := TX4) (N := 18) (As := []) (rest := []) rfl (by decide) (C_X4_keepsMode Y hz0 (rfC t0 0) (fs_6_0 t0 ht0) I0 L0 y1 e2) (fs_6_0 t0 ht0) rfl rfl ⟨by decide, by decide⟩ ⟨Nat.le_of_ble_eq_true rfl, Nat.le_of_ble_eq_true rfl⟩ (Nat.le_of_ble_eq_true rfl) dX6_kept_4) ?_
  refine J_if_eq (pc := 7) hX (tgt := 14) (by decide) dX6_kept_7 (fun h3 => ?_) (fun h3 => ?_)
  · refine J_iconst (pc := 14) hX (v := (0 : Int32)) (by decide) dX6_kept_14 ?_
    exact J_iret (pc := 15) hX (hQ _) dX6_kept_15
  · refine J_iconst (pc := 10) hX (v := (1 : Int32)) (by decide) dX6_kept_10 ?_
    refine J_goto (pc := 11) hX (tgt := 15) (by decide) dX6_kept_11 ?_
    exact J_iret (pc := 15) hX (hQ _) dX6_kept_15
theorem C_X6_kept (Y : jY) (hz0 : Y.zf = false) (t0 : Nat) (ht0 : shC t0 = 7) (I0 : jI) (L0 : jL) (r : Int32) (h : X6_kept t0 I0 = some r) : jMet Y yX6_kept cX6_kept 1 (some .int) 4 147 0 0 [jr t0] NC shC rfC I0 L0 (some (ji r)) NC shC rfC I0 L0 :=
  jmet_of _ _ h (fun Z r => jQ Y Z 0 0 (some (ji r)) NC shC rfC I0 L0) (fun _ => rfl) (by decide) (Nat.le_of_ble_eq_true rfl) (fun Z hX => W_X6_kept hz0 t0 ht0 I0 L0 hX (fun _ => rfl))
def X6_would (t0 : Nat) (p0 : Int32) (p1 : Int32) (I0 : jI) : Option (Int32 × jI) :=
(X6_isPage p0).bind (fun (y1 : Int32) =>
if y1 = 0 then (
jb2 (X6_refuse t0 (-52 : Int32) I0) (fun (y4 : Int32) (I5 : jI) =>
some (y4, I5)))
else (
(X6_isWithin p1 (0 : Int32) (3 : Int32)).bind (fun (y7 : Int32) =>
if y7 = 0 then (
jb2 (X6_refuse t0 (-52 : Int32) I0) (fun (y28 : Int32) (I29 : jI) =>
some (y28, I29)))
else (
(X4_takeFrom (rfC t0 1) (rfC t0 0) I0).bind (fun (I10 : jI) =>
jb2 (X4_access (rfC t0 1) p0 (0 : Int32) (0 : Int32) I10) (fun (y12 : Int32) (I13 : jI) =>
if p1 = 0 then (
some (y12, I13))
else (
if p1 = (1 : Int32) then (
(X4_flushedInAll (rfC t0 1) I13).bind (fun (y24 : Int32) =>
(X4_flushedInAll (rfC t0 0) I13).bind (fun (y26 : Int32) =>
some ((y24 - y26), I13))))
else (
if p1 = (2 : Int32) then (
some (((I13 (rfC t0 1) 10) - (I13 (rfC t0 0) 10)), I13))
else (
(X4_pagesIn (rfC t0 0) (0 : Int32) I13).bind (fun (y18 : Int64) =>
(X4_pagesIn (rfC t0 1) (0 : Int32) I13).bind (fun (y20 : Int64) =>
(J13_bitCount_95d88 (y18 &&& (y20 ^^^ (-1 : Int64)))).bind (fun (y22 : Int32) =>
some (y22, I13)))))))))))))
set_option maxRecDepth 20000 in
set_option maxHeartbeats 4000000 in
theorem W_X6_would {Y : jY} {Z : jZ} {Qf : Int32 × jI → State → Prop} (hz0 : Y.zf = false) (t0 : Nat) (ht0 : shC t0 = 7) (p0 : Int32) (p1 : Int32) (I0 : jI) (L0 : jL) (hX : jOK Y Z RX6 cX6_would 4 "would" (some .int) 46 2208 0 0) (hQ : ∀ r : Int32 × jI, Qf r = jQ Y Z 0 0 (some (ji r.1)) NC shC rfC r.2 L0) : J Y Z 4 Qf (X6_would t0 p0 p1 I0) 0 [(0, jr t0), (1, ji p0), (2, ji p1)] [] 0 0 NC shC rfC I0 L0 := by
  unfold X6_would
  refine J_iload_n (pc := 0) hX 1 rfl dX6_would_0 ?_
  refine J_call1 (fun y1 e2 => ?_)
  refine jrun_i (pc := 1) (jRunS hX s_X6_184 (As := [ji p0]) (rest := []) (C_X6_isPage Y hz0 p0 I0 L0 y1 e2) rfl rfl ⟨by decide, by decide⟩ ⟨Nat.le_of_ble_eq_true rfl, Nat.le_of_ble_eq_true rfl⟩ (Nat.le_of_ble_eq_true rfl) dX6_would_1) ?_
  refine J_if_eq (pc := 4) hX (tgt := 16) (by decide) dX6_would_4 (fun h3 => ?_) (fun h3 => ?_)
  · refine J_aload_n (pc := 16) hX 0 rfl dX6_would_16 ?_
    refine J_bipush (pc := 17) hX (v := (-52 : Int32)) (by decide) dX6_would_17 ?_
    refine J_call2 (fun y4 I5 e6 => ?_)
    refine jrun_i (pc := 19) (jRunV hX s_X6_51 (ci := 6) (T := TX6) (N := 8) (As := [ji (-52 : Int32)]) (rest := []) rfl (by decide) (C_X6_refuse Y hz0 t0 ht0 (-52 : Int32) I0 L0 y4 I5 e6) ht0 rfl rfl ⟨by decide, by decide⟩ ⟨Nat.le_of_ble_eq_true rfl, Nat.le_of_ble_eq_true rfl⟩ (Nat.le_of_ble_eq_true rfl) dX6_would_19) ?_
    exact J_iret (pc := 22) hX (hQ _) dX6_would_22
  · refine J_iload_n (pc := 7) hX 2 rfl dX6_would_7 ?_
    refine J_iconst (pc := 8) hX (v := (0 : Int32)) (by decide) dX6_would_8 ?_
    refine J_iconst (pc := 9) hX (v := (3 : Int32)) (by decide) dX6_would_9 ?_
    refine J_call1 (fun y7 e8 => ?_)
    refine jrun_i (pc := 10) (jRunS hX s_X6_47 (As := [ji p1, ji (0 : Int32), ji (3 : Int32)]) (rest := []) (C_X6_isWithin Y hz0 p1 (0 : Int32) (3 : Int32) I0 L0 y7 e8) rfl rfl ⟨by decide, by decide⟩ ⟨Nat.le_of_ble_eq_true rfl, Nat.le_of_ble_eq_true rfl⟩ (Nat.le_of_ble_eq_true rfl) dX6_would_10) ?_
    refine J_if_ne (pc := 13) hX (tgt := 23) (by decide) dX6_would_13 (fun h9 => ?_) (fun h9 => ?_)
    · refine J_aload_n (pc := 23) hX 0 rfl dX6_would_23 ?_
      refine g_X6_16 (pc := 24) hX ht0 dX6_would_24 ?_
      refine J_aload_n (pc := 27) hX 0 rfl dX6_would_27 ?_
      refine g_X6_10 (pc := 28) hX ht0 dX6_would_28 ?_
      refine J_call1 (fun I10 e11 => ?_)
      refine jrun_v (pc := 31) (jRunV hX s_X6_227 (ci := 4) (T := TX4) (N := 18) (As := [jr (rfC t0 0)]) (rest := []) rfl (by decide) (C_X4_takeFrom Y hz0 (rfC t0 1) (fs_6_1 t0 ht0) (rfC t0 0) (fs_6_0 t0 ht0) I0 L0 I10 e11) (fs_6_1 t0 ht0) rfl rfl ⟨by decide, by decide⟩ ⟨Nat.le_of_ble_eq_true rfl, Nat.le_of_ble_eq_true rfl⟩ (Nat.le_of_ble_eq_true rfl) dX6_would_31) ?_
      refine J_aload_n (pc := 34) hX 0 rfl dX6_would_34 ?_
      refine g_X6_16 (pc := 35) hX ht0 dX6_would_35 ?_
      refine J_iload_n (pc := 38) hX 1 rfl dX6_would_38 ?_
      refine J_iconst (pc := 39) hX (v := (0 : Int32)) (by decide) dX6_would_39 ?_
      refine J_iconst (pc := 40) hX (v := (0 : Int32)) (by decide) dX6_would_40 ?_
      refine J_call2 (fun y12 I13 e14 => ?_)
      refine jrun_i (pc := 41) (jRunV hX s_X6_152 (ci := 4) (T := TX4) (N := 18) (As := [ji p0, ji (0 : Int32), ji (0 : Int32)]) (rest := []) rfl (by decide) (C_X4_access Y hz0 (rfC t0 1) (fs_6_1 t0 ht0) p0 (0 : Int32) (0 : Int32) I10 L0 y12 I13 e14) (fs_6_1 t0 ht0) rfl rfl ⟨by decide, by decide⟩ ⟨Nat.le_of_ble_eq_true rfl, Nat.le_of_ble_eq_true rfl⟩ (Nat.le_of_ble_eq_true rfl) dX6_would_41) ?_
      refine J_istore_n (pc := 44) hX (lo' := [(3, ji y12), (0, jr t0), (1, ji p0), (2, ji p1)]) (by decide) rfl dX6_would_44 ?_
      refine J_iload_n (pc := 45) hX 3 rfl dX6_would_45 ?_
      refine J_if_ne (pc := 46) hX (tgt := 51) (by decide) dX6_would_46 (fun h15 => ?_) (fun h15 => ?_)
      · refine J_iload_n (pc := 51) hX 3 rfl dX6_would_51 ?_
        refine J_iconst (pc := 52) hX (v := (1 : Int32)) (by decide) dX6_would_52 ?_
        refine J_icmp_ne (pc := 53) hX (tgt := 72) (by decide) dX6_would_53 (fun h16 => ?_) (fun h16 => ?_)
        · refine J_iload_n (pc := 72) hX 3 rfl dX6_would_72 ?_
          refine J_iconst (pc := 73) hX (v := (2 : Int32)) (by decide) dX6_would_73 ?_
          refine J_icmp_ne (pc := 74) hX (tgt := 93) (by decide) dX6_would_74 (fun h17 => ?_) (fun h17 => ?_)
          · refine J_aload_n (pc := 93) hX 1 rfl dX6_would_93 ?_
            refine g_X6_10 (pc := 94) hX ht0 dX6_would_94 ?_
            refine J_iconst (pc := 97) hX (v := (0 : Int32)) (by decide) dX6_would_97 ?_
            refine J_call1 (fun y18 e19 => ?_)
            refine jrun_l (pc := 98) (jRunV hX s_X6_190 (ci := 4) (T := TX4) (N := 18) (As := [ji (0 : Int32)]) (rest := []) rfl (by decide) (C_X4_pagesIn Y hz0 (rfC t0 0) (fs_6_0 t0 ht0) (0 : Int32) I13 L0 y18 e19) (fs_6_0 t0 ht0) rfl rfl ⟨by decide, by decide⟩ ⟨Nat.le_of_ble_eq_true rfl, Nat.le_of_ble_eq_true rfl⟩ (Nat.le_of_ble_eq_true rfl) dX6_would_98) ?_
            refine J_aload_n (pc := 101) hX 1 rfl dX6_would_101 ?_
            refine g_X6_16 (pc := 102) hX ht0 dX6_would_102 ?_
            refine J_iconst (pc := 105) hX (v := (0 : Int32)) (by decide) dX6_would_105 ?_
            refine J_call1 (fun y20 e21 => ?_)
            refine jrun_l (pc := 106) (jRunV hX s_X6_190 (ci := 4) (T := TX4) (N := 18) (As := [ji (0 : Int32)]) (rest := [jl y18]) rfl (by decide) (C_X4_pagesIn Y hz0 (rfC t0 1) (fs_6_1 t0 ht0) (0 : Int32) I13 L0 y20 e21) (fs_6_1 t0 ht0) rfl rfl ⟨by decide, by decide⟩ ⟨Nat.le_of_ble_eq_true rfl, Nat.le_of_ble_eq_true rfl⟩ (Nat.le_of_ble_eq_true rfl) dX6_would_106) ?_
            refine J_ldc2 (pc := 109) hX q_X6_238 dX6_would_109 ?_
            refine J_lxor (pc := 112) hX dX6_would_112 ?_
            refine J_land (pc := 113) hX dX6_would_113 ?_
            refine J_call1 (fun y22 e23 => ?_)
            refine jrun_i (pc := 114) (jRunS hX s_X6_193 (As := [jl (y18 &&& (y20 ^^^ (-1 : Int64)))]) (rest := []) (C_J13_bitCount_95d88 Y hz0 (y18 &&& (y20 ^^^ (-1 : Int64))) I13 L0 y22 e23) rfl rfl ⟨by decide, by decide⟩ ⟨Nat.le_of_ble_eq_true rfl, Nat.le_of_ble_eq_true rfl⟩ (Nat.le_of_ble_eq_true rfl) dX6_would_114) ?_
            exact J_iret (pc := 117) hX (hQ _) dX6_would_117
          · refine J_aload_n (pc := 77) hX 1 rfl dX6_would_77 ?_
            refine g_X6_16 (pc := 78) hX ht0 dX6_would_78 ?_
            refine g_X6_235 (pc := 81) hX (fs_6_1 t0 ht0) dX6_would_81 ?_
            refine J_aload_n (pc := 84) hX 1 rfl dX6_would_84 ?_
            refine g_X6_10 (pc := 85) hX ht0 dX6_would_85 ?_
            refine g_X6_235 (pc := 88) hX (fs_6_0 t0 ht0) dX6_would_88 ?_
            refine J_isub (pc := 91) hX dX6_would_91 ?_
            exact J_iret (pc := 92) hX (hQ _) dX6_would_92
        · refine J_aload_n (pc := 56) hX 1 rfl dX6_would_56 ?_
          refine g_X6_16 (pc := 57) hX ht0 dX6_would_57 ?_
          refine J_call1 (fun y24 e25 => ?_)
          refine jrun_i (pc := 60) (jRunV hX s_X6_231 (ci := 4) (T := TX4) (N := 18) (As := []) (rest := []) rfl (by decide) (C_X4_flushedInAll Y hz0 (rfC t0 1) (fs_6_1 t0 ht0) I13 L0 y24 e25) (fs_6_1 t0 ht0) rfl rfl ⟨by decide, by decide⟩ ⟨Nat.le_of_ble_eq_true rfl, Nat.le_of_ble_eq_true rfl⟩ (Nat.le_of_ble_eq_true rfl) dX6_would_60) ?_
          refine J_aload_n (pc := 63) hX 1 rfl dX6_would_63 ?_
          refine g_X6_10 (pc := 64) hX ht0 dX6_would_64 ?_
          refine J_call1 (fun y26 e27 => ?_)
          refine jrun_i (pc := 67) (jRunV hX s_X6_231 (ci := 4) (T := TX4) (N := 18) (As := []) (rest := [ji y24]) rfl (by decide) (C_X4_flushedInAll Y hz0 (rfC t0 0) (fs_6_0 t0 ht0) I13 L0 y26 e27) (fs_6_0 t0 ht0) rfl rfl ⟨by decide, by decide⟩ ⟨Nat.le_of_ble_eq_true rfl, Nat.le_of_ble_eq_true rfl⟩ (Nat.le_of_ble_eq_true rfl) dX6_would_67) ?_
          refine J_isub (pc := 70) hX dX6_would_70 ?_
          exact J_iret (pc := 71) hX (hQ _) dX6_would_71
      · refine J_iload_n (pc := 49) hX 0 rfl dX6_would_49 ?_
        exact J_iret (pc := 50) hX (hQ _) dX6_would_50
    · refine J_aload_n (pc := 16) hX 0 rfl dX6_would_16 ?_
      refine J_bipush (pc := 17) hX (v := (-52 : Int32)) (by decide) dX6_would_17 ?_
      refine J_call2 (fun y28 I29 e30 => ?_)
      refine jrun_i (pc := 19) (jRunV hX s_X6_51 (ci := 6) (T := TX6) (N := 8) (As := [ji (-52 : Int32)]) (rest := []) rfl (by decide) (C_X6_refuse Y hz0 t0 ht0 (-52 : Int32) I0 L0 y28 I29 e30) ht0 rfl rfl ⟨by decide, by decide⟩ ⟨Nat.le_of_ble_eq_true rfl, Nat.le_of_ble_eq_true rfl⟩ (Nat.le_of_ble_eq_true rfl) dX6_would_19) ?_
      exact J_iret (pc := 22) hX (hQ _) dX6_would_22
theorem C_X6_would (Y : jY) (hz0 : Y.zf = false) (t0 : Nat) (ht0 : shC t0 = 7) (p0 : Int32) (p1 : Int32) (I0 : jI) (L0 : jL) (r : Int32) (I1 : jI) (h : X6_would t0 p0 p1 I0 = some (r, I1)) : jMet Y yX6_would cX6_would 4 (some .int) 46 2208 0 0 [jr t0, ji p0, ji p1] NC shC rfC I0 L0 (some (ji r)) NC shC rfC I1 L0 :=
  jmet_of _ _ h (fun Z r => jQ Y Z 0 0 (some (ji r.1)) NC shC rfC r.2 L0) (fun _ => rfl) (by decide) (Nat.le_of_ble_eq_true rfl) (fun Z hX => W_X6_would hz0 t0 ht0 p0 p1 I0 L0 hX (fun _ => rfl))
def X6_listen_F1 (t0 : Nat) (p1 : Int32) (p2 : Int32) (L0 : jL) (x1 : Nat) (g13 : Int32 → jI → Option (Int32 × jI)) : Int32 → jI → Option (Int32 × jI) := fun (v11 : Int32) (I12 : jI) =>
if p1 ≤ v11 then (
some ((0 : Int32), I12))
else (
if (40 : Int32) ≤ v11 then (
some ((0 : Int32), I12))
else (
(X3_elementAt x1 (v11 * p2) I12 L0).bind (fun (y16 : Int64) =>
if (lg_cmp y16 (0 : Int64)) < 0 then (
some ((-52 : Int32), I12))
else (
if (lg_cmp y16 (64 : Int64)) < 0 then (
if jin v11 40 then jlet (jup I12 (rfC t0 7) (v11).toNatClampNeg ((y16).toInt32)) (fun (I21 : jI) =>
g13 (v11 + (1 : Int32)) I21) else none)
else (
some ((-52 : Int32), I12))))))
def X6_listen (t0 : Nat) (p0 : Int32) (p1 : Int32) (p2 : Int32) (I0 : jI) (L0 : jL) : Option (Int32 × jI) :=
(X6_shelfAt t0 p0).bind (fun (x1 : Nat) =>
(X6_rowRefusal x1 I0).bind (fun (y4 : Int32) =>
if x1 = 0 then (
some (y4, I0))
else (
if y4 = 0 then (
(X3_hasElements x1 (0 : Int32) (p1 * p2) I0).bind (fun (y8 : Int32) =>
if y8 = 0 then (
some ((-52 : Int32), I0))
else (
jfx (X6_listen_F1 t0 p1 p2 L0 x1) (fun _ _ => none) 1000 (0 : Int32) I0)))
else (
some (y4, I0)))))
set_option maxRecDepth 20000 in
set_option maxHeartbeats 4000000 in
theorem W_X6_listen {Y : jY} {Z : jZ} {Qf : Int32 × jI → State → Prop} (hz0 : Y.zf = false) (t0 : Nat) (ht0 : shC t0 = 7) (p0 : Int32) (p1 : Int32) (p2 : Int32) (I0 : jI) (L0 : jL) (hX : jOK Y Z RX6 cX6_listen 9 "listen" (some .int) 4 144 0 0) (hQ : ∀ r : Int32 × jI, Qf r = jQ Y Z 0 0 (some (ji r.1)) NC shC rfC r.2 L0) : J Y Z 9 Qf (X6_listen t0 p0 p1 p2 I0 L0) 0 [(0, jr t0), (1, ji p0), (2, ji p1), (3, ji p2)] [] 0 0 NC shC rfC I0 L0 := by
  unfold X6_listen
  refine J_aload_n (pc := 0) hX 0 rfl dX6_listen_0 ?_
  refine J_iload_n (pc := 1) hX 1 rfl dX6_listen_1 ?_
  refine J_call1 (fun x1 e2 => ?_)
  refine jrun_r (pc := 2) (jRunV hX s_X6_43 (ci := 6) (T := TX6) (N := 8) (As := [ji p0]) (rest := []) rfl (by decide) (C_X6_shelfAt Y hz0 t0 ht0 p0 I0 L0 x1 e2) ht0 rfl rfl ⟨by decide, by decide⟩ ⟨Nat.le_of_ble_eq_true rfl, Nat.le_of_ble_eq_true rfl⟩ (Nat.le_of_ble_eq_true rfl) dX6_listen_2) ?_
  have t3 := T_X6_shelfAt t0 ht0 p0  e2
  refine J_astore (pc := 5) hX (lo' := [(4, jr x1), (0, jr t0), (1, ji p0), (2, ji p1), (3, ji p2)]) (by decide) rfl dX6_listen_5 ?_
  refine J_aload (pc := 7) hX 0 rfl dX6_listen_7 ?_
  refine J_call1 (fun y4 e5 => ?_)
  refine jrun_i (pc := 9) (jRunS hX s_X6_59 (As := [jr x1]) (rest := []) (C_X6_rowRefusal Y hz0 x1 t3 I0 L0 y4 e5) rfl rfl ⟨by decide, by decide⟩ ⟨Nat.le_of_ble_eq_true rfl, Nat.le_of_ble_eq_true rfl⟩ (Nat.le_of_ble_eq_true rfl) dX6_listen_9) ?_
  refine J_istore (pc := 12) hX (lo' := [(5, ji y4), (4, jr x1), (0, jr t0), (1, ji p0), (2, ji p1), (3, ji p2)]) (by decide) rfl dX6_listen_12 ?_
  refine J_aload (pc := 14) hX 1 rfl dX6_listen_14 ?_
  refine J_ifnull (pc := 16) hX (tgt := 24) (by decide) dX6_listen_16 (fun h6 => ?_) (fun h6 => ?_)
  · refine J_iload (pc := 24) hX 0 rfl dX6_listen_24 ?_
    exact J_iret (pc := 26) hX (hQ _) dX6_listen_26
  · refine J_iload (pc := 19) hX 0 rfl dX6_listen_19 ?_
    refine J_if_eq (pc := 21) hX (tgt := 27) (by decide) dX6_listen_21 (fun h7 => ?_) (fun h7 => ?_)
    · refine J_aload (pc := 27) hX 1 rfl dX6_listen_27 ?_
      refine J_iconst (pc := 29) hX (v := (0 : Int32)) (by decide) dX6_listen_29 ?_
      refine J_iload_n (pc := 30) hX 4 rfl dX6_listen_30 ?_
      refine J_iload_n (pc := 31) hX 5 rfl dX6_listen_31 ?_
      refine J_imul (pc := 32) hX dX6_listen_32 ?_
      refine J_call1 (fun y8 e9 => ?_)
      refine jrun_i (pc := 33) (jRunV hX s_X6_82 (ci := 3) (T := TX3) (N := 4) (As := [ji (0 : Int32), ji (p1 * p2)]) (rest := []) rfl (by decide) (C_X3_hasElements Y hz0 x1 (t3.resolve_left h6) (0 : Int32) (p1 * p2) I0 L0 y8 e9) (t3.resolve_left h6) rfl rfl ⟨by decide, by decide⟩ ⟨Nat.le_of_ble_eq_true rfl, Nat.le_of_ble_eq_true rfl⟩ (Nat.le_of_ble_eq_true rfl) dX6_listen_33) ?_
      refine J_if_ne (pc := 36) hX (tgt := 42) (by decide) dX6_listen_36 (fun h10 => ?_) (fun h10 => ?_)
      · refine J_iconst (pc := 42) hX (v := (0 : Int32)) (by decide) dX6_listen_42 ?_
        refine J_istore (pc := 43) hX (lo' := [(6, ji (0 : Int32)), (5, ji y4), (4, jr x1), (0, jr t0), (1, ji p0), (2, ji p1), (3, ji p2)]) (by decide) rfl dX6_listen_43 ?_
        have lhg13 : ∀ mq : Nat, ∀ (v11 : Int32) (I12 : jI), J Y Z 9 Qf (jfx (X6_listen_F1 t0 p1 p2 L0 x1) (fun _ _ => none) mq v11 I12) 45 [(0, jr t0), (2, ji p1), (3, ji p2), (4, jr x1), (6, ji v11)] [] 0 0 NC shC rfC I12 L0 := by
          intro mq
          refine jfx_J (fun (_ : Nat) (g13 : Int32 → jI → Option (Int32 × jI)) => ∀ (v11 : Int32) (I12 : jI), J Y Z 9 Qf (g13 v11 I12) 45 [(0, jr t0), (2, ji p1), (3, ji p2), (4, jr x1), (6, ji v11)] [] 0 0 NC shC rfC I12 L0) ?_ (fun _ g13 hg13 => ?_) mq
          · intro v11 I12
            exact J_none
          intro v11 I12
          unfold X6_listen_F1
          try dsimp only
          refine J_iload (pc := 45) hX 4 rfl dX6_listen_45 ?_
          refine J_iload_n (pc := 47) hX 1 rfl dX6_listen_47 ?_
          refine J_icmp_ge (pc := 48) hX (tgt := 107) (by decide) dX6_listen_48 (fun h14 => ?_) (fun h14 => ?_)
          · refine J_iconst (pc := 107) hX (v := (0 : Int32)) (by decide) dX6_listen_107 ?_
            exact J_iret (pc := 108) hX (hQ _) dX6_listen_108
          · refine J_iload (pc := 51) hX 4 rfl dX6_listen_51 ?_
            refine J_aload_n (pc := 53) hX 0 rfl dX6_listen_53 ?_
            refine g_X6_39 (pc := 54) hX ht0 dX6_listen_54 ?_
            refine J_alen (pc := 57) hX (v := (40 : Int32)) (fs_6_7 t0 ht0) (by decide) dX6_listen_57 ?_
            refine J_icmp_ge (pc := 58) hX (tgt := 107) (by decide) dX6_listen_58 (fun h15 => ?_) (fun h15 => ?_)
            · refine J_iconst (pc := 107) hX (v := (0 : Int32)) (by decide) dX6_listen_107 ?_
              exact J_iret (pc := 108) hX (hQ _) dX6_listen_108
            · refine J_aload (pc := 61) hX 3 rfl dX6_listen_61 ?_
              refine J_iload (pc := 63) hX 4 rfl dX6_listen_63 ?_
              refine J_iload_n (pc := 65) hX 2 rfl dX6_listen_65 ?_
              refine J_imul (pc := 66) hX dX6_listen_66 ?_
              refine J_call1 (fun y16 e17 => ?_)
              refine jrun_l (pc := 67) (jRunV hX s_X6_96 (ci := 3) (T := TX3) (N := 4) (As := [ji (v11 * p2)]) (rest := []) rfl (by decide) (C_X3_elementAt Y hz0 x1 (t3.resolve_left h6) (v11 * p2) I12 L0 y16 e17) (t3.resolve_left h6) rfl rfl ⟨by decide, by decide⟩ ⟨Nat.le_of_ble_eq_true rfl, Nat.le_of_ble_eq_true rfl⟩ (Nat.le_of_ble_eq_true rfl) dX6_listen_67) ?_
              refine J_lstore (pc := 70) hX (lo' := [(7, jl y16), (0, jr t0), (2, ji p1), (3, ji p2), (4, jr x1), (6, ji v11)]) (by decide) rfl dX6_listen_70 ?_
              refine J_lload (pc := 72) hX 0 rfl dX6_listen_72 ?_
              refine J_lconst (pc := 74) hX (v := (0 : Int64)) (by decide) dX6_listen_74 ?_
              refine J_lcmp (pc := 75) hX dX6_listen_75 ?_
              refine J_if_lt (pc := 76) hX (tgt := 88) (by decide) dX6_listen_76 (fun h18 => ?_) (fun h18 => ?_)
              · refine J_bipush (pc := 88) hX (v := (-52 : Int32)) (by decide) dX6_listen_88 ?_
                exact J_iret (pc := 90) hX (hQ _) dX6_listen_90
              · refine J_lload (pc := 79) hX 0 rfl dX6_listen_79 ?_
                refine J_ldc2 (pc := 81) hX q_X6_330 dX6_listen_81 ?_
                refine J_lcmp (pc := 84) hX dX6_listen_84 ?_
                refine J_if_lt (pc := 85) hX (tgt := 91) (by decide) dX6_listen_85 (fun h19 => ?_) (fun h19 => ?_)
                · refine J_aload_n (pc := 91) hX 1 rfl dX6_listen_91 ?_
                  refine g_X6_39 (pc := 92) hX ht0 dX6_listen_92 ?_
                  refine J_iload (pc := 95) hX 5 rfl dX6_listen_95 ?_
                  refine J_lload (pc := 97) hX 0 rfl dX6_listen_97 ?_
                  refine J_l2i (pc := 99) hX dX6_listen_99 ?_
                  refine J_iast (pc := 100) hX (N := 40) (fs_6_7 t0 ht0) (by decide) dX6_listen_100 (fun h20 I21 => ?_)
                  refine J_iinc (pc := 101) hX (v := (v11 + (1 : Int32))) (lo' := [(6, ji (v11 + (1 : Int32))), (7, jl y16), (0, jr t0), (2, ji p1), (3, ji p2), (4, jr x1)]) 5 rfl (by rfl) (by decide) rfl dX6_listen_101 ?_
                  refine J_goto (pc := 104) hX (tgt := 45) (by decide) dX6_listen_104 ?_
                  refine J_sub [2, 3, 4, 5, 0] rfl ?_
                  exact hg13 (v11 + (1 : Int32)) I21
                · refine J_bipush (pc := 88) hX (v := (-52 : Int32)) (by decide) dX6_listen_88 ?_
                  exact J_iret (pc := 90) hX (hQ _) dX6_listen_90
        refine J_sub [3, 5, 6, 2, 0] rfl ?_
        exact lhg13 1000 (0 : Int32) I0
      · refine J_bipush (pc := 39) hX (v := (-52 : Int32)) (by decide) dX6_listen_39 ?_
        exact J_iret (pc := 41) hX (hQ _) dX6_listen_41
    · refine J_iload (pc := 24) hX 0 rfl dX6_listen_24 ?_
      exact J_iret (pc := 26) hX (hQ _) dX6_listen_26
theorem C_X6_listen (Y : jY) (hz0 : Y.zf = false) (t0 : Nat) (ht0 : shC t0 = 7) (p0 : Int32) (p1 : Int32) (p2 : Int32) (I0 : jI) (L0 : jL) (r : Int32) (I1 : jI) (h : X6_listen t0 p0 p1 p2 I0 L0 = some (r, I1)) : jMet Y yX6_listen cX6_listen 9 (some .int) 4 144 0 0 [jr t0, ji p0, ji p1, ji p2] NC shC rfC I0 L0 (some (ji r)) NC shC rfC I1 L0 :=
  jmet_of _ _ h (fun Z r => jQ Y Z 0 0 (some (ji r.1)) NC shC rfC r.2 L0) (fun _ => rfl) (by decide) (Nat.le_of_ble_eq_true rfl) (fun Z hX => W_X6_listen hz0 t0 ht0 p0 p1 p2 I0 L0 hX (fun _ => rfl))
def X6_hear (t0 : Nat) (p0 : Int32) (p1 : Int32) (p2 : Int32) (I0 : jI) (L0 : jL) : Option (Int32 × jI) :=
if p2 = 0 then (
jb2 (X6_refuse t0 (-52 : Int32) I0) (fun (y2 : Int32) (I3 : jI) =>
some (y2, I3)))
else (
(X6_isWithin p1 (0 : Int32) (40 : Int32)).bind (fun (y5 : Int32) =>
if y5 = 0 then (
jb2 (X6_refuse t0 (-52 : Int32) I0) (fun (y15 : Int32) (I16 : jI) =>
some (y15, I16)))
else (
jb2 (X6_listen t0 p0 p1 (1 : Int32) I0 L0) (fun (y8 : Int32) (I9 : jI) =>
if y8 = 0 then (
some ((0 : Int32), I9))
else (
jb2 (X6_refuse t0 y8 I9) (fun (y12 : Int32) (I13 : jI) =>
some (y12, I13)))))))
set_option maxRecDepth 20000 in
set_option maxHeartbeats 4000000 in
theorem W_X6_hear {Y : jY} {Z : jZ} {Qf : Int32 × jI → State → Prop} (hz0 : Y.zf = false) (t0 : Nat) (ht0 : shC t0 = 7) (p0 : Int32) (p1 : Int32) (p2 : Int32) (I0 : jI) (L0 : jL) (hX : jOK Y Z RX6 cX6_hear 5 "hear" (some .int) 5 172 0 0) (hQ : ∀ r : Int32 × jI, Qf r = jQ Y Z 0 0 (some (ji r.1)) NC shC rfC r.2 L0) : J Y Z 5 Qf (X6_hear t0 p0 p1 p2 I0 L0) 0 [(0, jr t0), (1, ji p0), (2, ji p1), (3, ji p2)] [] 0 0 NC shC rfC I0 L0 := by
  unfold X6_hear
  refine J_iload_n (pc := 0) hX 3 rfl dX6_hear_0 ?_
  refine J_if_eq (pc := 1) hX (tgt := 14) (by decide) dX6_hear_1 (fun h1 => ?_) (fun h1 => ?_)
  · refine J_aload_n (pc := 14) hX 0 rfl dX6_hear_14 ?_
    refine J_bipush (pc := 15) hX (v := (-52 : Int32)) (by decide) dX6_hear_15 ?_
    refine J_call2 (fun y2 I3 e4 => ?_)
    refine jrun_i (pc := 17) (jRunV hX s_X6_51 (ci := 6) (T := TX6) (N := 8) (As := [ji (-52 : Int32)]) (rest := []) rfl (by decide) (C_X6_refuse Y hz0 t0 ht0 (-52 : Int32) I0 L0 y2 I3 e4) ht0 rfl rfl ⟨by decide, by decide⟩ ⟨Nat.le_of_ble_eq_true rfl, Nat.le_of_ble_eq_true rfl⟩ (Nat.le_of_ble_eq_true rfl) dX6_hear_17) ?_
    exact J_iret (pc := 20) hX (hQ _) dX6_hear_20
  · refine J_iload_n (pc := 4) hX 2 rfl dX6_hear_4 ?_
    refine J_iconst (pc := 5) hX (v := (0 : Int32)) (by decide) dX6_hear_5 ?_
    refine J_bipush (pc := 6) hX (v := (40 : Int32)) (by decide) dX6_hear_6 ?_
    refine J_call1 (fun y5 e6 => ?_)
    refine jrun_i (pc := 8) (jRunS hX s_X6_47 (As := [ji p1, ji (0 : Int32), ji (40 : Int32)]) (rest := []) (C_X6_isWithin Y hz0 p1 (0 : Int32) (40 : Int32) I0 L0 y5 e6) rfl rfl ⟨by decide, by decide⟩ ⟨Nat.le_of_ble_eq_true rfl, Nat.le_of_ble_eq_true rfl⟩ (Nat.le_of_ble_eq_true rfl) dX6_hear_8) ?_
    refine J_if_ne (pc := 11) hX (tgt := 21) (by decide) dX6_hear_11 (fun h7 => ?_) (fun h7 => ?_)
    · refine J_aload_n (pc := 21) hX 0 rfl dX6_hear_21 ?_
      refine J_iload_n (pc := 22) hX 1 rfl dX6_hear_22 ?_
      refine J_iload_n (pc := 23) hX 2 rfl dX6_hear_23 ?_
      refine J_iconst (pc := 24) hX (v := (1 : Int32)) (by decide) dX6_hear_24 ?_
      refine J_call2 (fun y8 I9 e10 => ?_)
      refine jrun_i (pc := 25) (jRunV hX s_X6_272 (ci := 6) (T := TX6) (N := 8) (As := [ji p0, ji p1, ji (1 : Int32)]) (rest := []) rfl (by decide) (C_X6_listen Y hz0 t0 ht0 p0 p1 (1 : Int32) I0 L0 y8 I9 e10) ht0 rfl rfl ⟨by decide, by decide⟩ ⟨Nat.le_of_ble_eq_true rfl, Nat.le_of_ble_eq_true rfl⟩ (Nat.le_of_ble_eq_true rfl) dX6_hear_25) ?_
      refine J_istore (pc := 28) hX (lo' := [(4, ji y8), (0, jr t0), (1, ji p0), (2, ji p1), (3, ji p2)]) (by decide) rfl dX6_hear_28 ?_
      refine J_iload (pc := 30) hX 0 rfl dX6_hear_30 ?_
      refine J_if_ne (pc := 32) hX (tgt := 39) (by decide) dX6_hear_32 (fun h11 => ?_) (fun h11 => ?_)
      · refine J_aload_n (pc := 39) hX 1 rfl dX6_hear_39 ?_
        refine J_iload (pc := 40) hX 0 rfl dX6_hear_40 ?_
        refine J_call2 (fun y12 I13 e14 => ?_)
        refine jrun_i (pc := 42) (jRunV hX s_X6_51 (ci := 6) (T := TX6) (N := 8) (As := [ji y8]) (rest := []) rfl (by decide) (C_X6_refuse Y hz0 t0 ht0 y8 I9 L0 y12 I13 e14) ht0 rfl rfl ⟨by decide, by decide⟩ ⟨Nat.le_of_ble_eq_true rfl, Nat.le_of_ble_eq_true rfl⟩ (Nat.le_of_ble_eq_true rfl) dX6_hear_42) ?_
        exact J_iret (pc := 45) hX (hQ _) dX6_hear_45
      · refine J_iconst (pc := 35) hX (v := (0 : Int32)) (by decide) dX6_hear_35 ?_
        refine J_goto (pc := 36) hX (tgt := 45) (by decide) dX6_hear_36 ?_
        exact J_iret (pc := 45) hX (hQ _) dX6_hear_45
    · refine J_aload_n (pc := 14) hX 0 rfl dX6_hear_14 ?_
      refine J_bipush (pc := 15) hX (v := (-52 : Int32)) (by decide) dX6_hear_15 ?_
      refine J_call2 (fun y15 I16 e17 => ?_)
      refine jrun_i (pc := 17) (jRunV hX s_X6_51 (ci := 6) (T := TX6) (N := 8) (As := [ji (-52 : Int32)]) (rest := []) rfl (by decide) (C_X6_refuse Y hz0 t0 ht0 (-52 : Int32) I0 L0 y15 I16 e17) ht0 rfl rfl ⟨by decide, by decide⟩ ⟨Nat.le_of_ble_eq_true rfl, Nat.le_of_ble_eq_true rfl⟩ (Nat.le_of_ble_eq_true rfl) dX6_hear_17) ?_
      exact J_iret (pc := 20) hX (hQ _) dX6_hear_20
theorem C_X6_hear (Y : jY) (hz0 : Y.zf = false) (t0 : Nat) (ht0 : shC t0 = 7) (p0 : Int32) (p1 : Int32) (p2 : Int32) (I0 : jI) (L0 : jL) (r : Int32) (I1 : jI) (h : X6_hear t0 p0 p1 p2 I0 L0 = some (r, I1)) : jMet Y yX6_hear cX6_hear 5 (some .int) 5 172 0 0 [jr t0, ji p0, ji p1, ji p2] NC shC rfC I0 L0 (some (ji r)) NC shC rfC I1 L0 :=
  jmet_of _ _ h (fun Z r => jQ Y Z 0 0 (some (ji r.1)) NC shC rfC r.2 L0) (fun _ => rfl) (by decide) (Nat.le_of_ble_eq_true rfl) (fun Z hX => W_X6_hear hz0 t0 ht0 p0 p1 p2 I0 L0 hX (fun _ => rfl))
def X6_toldAt (t0 : Nat) (p0 : Int32) (I0 : jI) : Option (Int32) :=
(X6_isWithin p0 (0 : Int32) ((40 : Int32) - (1 : Int32))).bind (fun (y1 : Int32) =>
if y1 = 0 then (
some (-1 : Int32))
else (
if jin p0 40 then (
some (I0 (rfC t0 7) (p0).toNatClampNeg)) else none))
set_option maxRecDepth 20000 in
set_option maxHeartbeats 4000000 in
theorem W_X6_toldAt {Y : jY} {Z : jZ} {Qf : Int32 → State → Prop} (hz0 : Y.zf = false) (t0 : Nat) (ht0 : shC t0 = 7) (p0 : Int32) (I0 : jI) (L0 : jL) (hX : jOK Y Z RX6 cX6_toldAt 2 "toldAt" (some .int) 2 102 0 0) (hQ : ∀ r : Int32, Qf r = jQ Y Z 0 0 (some (ji r)) NC shC rfC I0 L0) : J Y Z 2 Qf (X6_toldAt t0 p0 I0) 0 [(0, jr t0), (1, ji p0)] [] 0 0 NC shC rfC I0 L0 := by
  unfold X6_toldAt
  refine J_iload_n (pc := 0) hX 1 rfl dX6_toldAt_0 ?_
  refine J_iconst (pc := 1) hX (v := (0 : Int32)) (by decide) dX6_toldAt_1 ?_
  refine J_aload_n (pc := 2) hX 0 rfl dX6_toldAt_2 ?_
  refine g_X6_39 (pc := 3) hX ht0 dX6_toldAt_3 ?_
  refine J_alen (pc := 6) hX (v := (40 : Int32)) (fs_6_7 t0 ht0) (by decide) dX6_toldAt_6 ?_
  refine J_iconst (pc := 7) hX (v := (1 : Int32)) (by decide) dX6_toldAt_7 ?_
  refine J_isub (pc := 8) hX dX6_toldAt_8 ?_
  refine J_call1 (fun y1 e2 => ?_)
  refine jrun_i (pc := 9) (jRunS hX s_X6_47 (As := [ji p0, ji (0 : Int32), ji ((40 : Int32) - (1 : Int32))]) (rest := []) (C_X6_isWithin Y hz0 p0 (0 : Int32) ((40 : Int32) - (1 : Int32)) I0 L0 y1 e2) rfl rfl ⟨by decide, by decide⟩ ⟨Nat.le_of_ble_eq_true rfl, Nat.le_of_ble_eq_true rfl⟩ (Nat.le_of_ble_eq_true rfl) dX6_toldAt_9) ?_
  refine J_if_eq (pc := 12) hX (tgt := 24) (by decide) dX6_toldAt_12 (fun h3 => ?_) (fun h3 => ?_)
  · refine J_iconst (pc := 24) hX (v := (-1 : Int32)) (by decide) dX6_toldAt_24 ?_
    exact J_iret (pc := 25) hX (hQ _) dX6_toldAt_25
  · refine J_aload_n (pc := 15) hX 0 rfl dX6_toldAt_15 ?_
    refine g_X6_39 (pc := 16) hX ht0 dX6_toldAt_16 ?_
    refine J_iload_n (pc := 19) hX 1 rfl dX6_toldAt_19 ?_
    refine J_iald (pc := 20) hX (N := 40) (fs_6_7 t0 ht0) (by decide) dX6_toldAt_20 (fun h4 => ?_)
    refine J_goto (pc := 21) hX (tgt := 25) (by decide) dX6_toldAt_21 ?_
    exact J_iret (pc := 25) hX (hQ _) dX6_toldAt_25
theorem C_X6_toldAt (Y : jY) (hz0 : Y.zf = false) (t0 : Nat) (ht0 : shC t0 = 7) (p0 : Int32) (I0 : jI) (L0 : jL) (r : Int32) (h : X6_toldAt t0 p0 I0 = some r) : jMet Y yX6_toldAt cX6_toldAt 2 (some .int) 2 102 0 0 [jr t0, ji p0] NC shC rfC I0 L0 (some (ji r)) NC shC rfC I0 L0 :=
  jmet_of _ _ h (fun Z r => jQ Y Z 0 0 (some (ji r)) NC shC rfC I0 L0) (fun _ => rfl) (by decide) (Nat.le_of_ble_eq_true rfl) (fun Z hX => W_X6_toldAt hz0 t0 ht0 p0 I0 L0 hX (fun _ => rfl))
def X6_plan_F1 (t0 : Nat) (p1 : Int32) (k13 : Int32 → Int32 → Int32 → jI → Option (Int32 × jI)) (g21 : Int32 → Int32 → Int32 → Int32 → jI → Option (Int32 × jI)) : Int32 → Int32 → Int32 → Int32 → jI → Option (Int32 × jI) := fun (v16 : Int32) (v17 : Int32) (v18 : Int32) (v19 : Int32) (I20 : jI) =>
if p1 ≤ v19 then (
k13 v16 v17 v18 I20)
else (
(X6_toldAt t0 v19 I20).bind (fun (y23 : Int32) =>
jb2 (X4_access (rfC t0 1) y23 (0 : Int32) (0 : Int32) I20) (fun (y25 : Int32) (I26 : jI) =>
jlet ((v16 + y25)) (fun (y28 : Int32) =>
jlet (if (I26 (rfC t0 1) 16) = (1 : Int32) then (1 : Int32) else (0 : Int32)) (fun (y30 : Int32) =>
jlet ((v17 + y30)) (fun (y31 : Int32) =>
jlet (if (I26 (rfC t0 1) 16) = 0 then (1 : Int32) else (0 : Int32)) (fun (y33 : Int32) =>
jlet ((v18 + y33)) (fun (y34 : Int32) =>
g21 y28 y31 y34 (v19 + (1 : Int32)) I26))))))))
def X6_plan (t0 : Nat) (p0 : Int32) (p1 : Int32) (p2 : Int32) (I0 : jI) (L0 : jL) : Option (Int32 × jI) :=
(X6_isWithin p2 (0 : Int32) (2 : Int32)).bind (fun (y1 : Int32) =>
jb2 (X6_hear t0 p0 p1 y1 I0 L0) (fun (y3 : Int32) (I4 : jI) =>
if y3 = 0 then (
(X4_takeFrom (rfC t0 1) (rfC t0 0) I4).bind (fun (I7 : jI) =>
jlet (fun (v9 : Int32) (v10 : Int32) (v11 : Int32) (I12 : jI) =>
if p2 = 0 then (
some (v9, I12))
else (
if p2 = (1 : Int32) then (
some (v10, I12))
else (
some (v11, I12)))) (fun (k13 : Int32 → Int32 → Int32 → jI → Option (Int32 × jI)) =>
jfx (X6_plan_F1 t0 p1 k13) (fun _ _ _ _ _ => none) 1000 (0 : Int32) (0 : Int32) (0 : Int32) (0 : Int32) I7)))
else (
some (y3, I4))))
set_option maxRecDepth 20000 in
set_option maxHeartbeats 4000000 in
theorem W_X6_plan {Y : jY} {Z : jZ} {Qf : Int32 × jI → State → Prop} (hz0 : Y.zf = false) (t0 : Nat) (ht0 : shC t0 = 7) (p0 : Int32) (p1 : Int32) (p2 : Int32) (I0 : jI) (L0 : jL) (hX : jOK Y Z RX6 cX6_plan 9 "plan" (some .int) 46 2208 0 0) (hQ : ∀ r : Int32 × jI, Qf r = jQ Y Z 0 0 (some (ji r.1)) NC shC rfC r.2 L0) : J Y Z 9 Qf (X6_plan t0 p0 p1 p2 I0 L0) 0 [(0, jr t0), (1, ji p0), (2, ji p1), (3, ji p2)] [] 0 0 NC shC rfC I0 L0 := by
  unfold X6_plan
  refine J_aload_n (pc := 0) hX 0 rfl dX6_plan_0 ?_
  refine J_iload_n (pc := 1) hX 1 rfl dX6_plan_1 ?_
  refine J_iload_n (pc := 2) hX 2 rfl dX6_plan_2 ?_
  refine J_iload_n (pc := 3) hX 3 rfl dX6_plan_3 ?_
  refine J_iconst (pc := 4) hX (v := (0 : Int32)) (by decide) dX6_plan_4 ?_
  refine J_iconst (pc := 5) hX (v := (2 : Int32)) (by decide) dX6_plan_5 ?_
  refine J_call1 (fun y1 e2 => ?_)
  refine jrun_i (pc := 6) (jRunS hX s_X6_47 (As := [ji p2, ji (0 : Int32), ji (2 : Int32)]) (rest := [ji p1, ji p0, jr t0]) (C_X6_isWithin Y hz0 p2 (0 : Int32) (2 : Int32) I0 L0 y1 e2) rfl rfl ⟨by decide, by decide⟩ ⟨Nat.le_of_ble_eq_true rfl, Nat.le_of_ble_eq_true rfl⟩ (Nat.le_of_ble_eq_true rfl) dX6_plan_6) ?_
  refine J_call2 (fun y3 I4 e5 => ?_)
  refine jrun_i (pc := 9) (jRunV hX s_X6_240 (ci := 6) (T := TX6) (N := 8) (As := [ji p0, ji p1, ji y1]) (rest := []) rfl (by decide) (C_X6_hear Y hz0 t0 ht0 p0 p1 y1 I0 L0 y3 I4 e5) ht0 rfl rfl ⟨by decide, by decide⟩ ⟨Nat.le_of_ble_eq_true rfl, Nat.le_of_ble_eq_true rfl⟩ (Nat.le_of_ble_eq_true rfl) dX6_plan_9) ?_
  refine J_istore (pc := 12) hX (lo' := [(4, ji y3), (0, jr t0), (1, ji p0), (2, ji p1), (3, ji p2)]) (by decide) rfl dX6_plan_12 ?_
  refine J_iload (pc := 14) hX 0 rfl dX6_plan_14 ?_
  refine J_if_eq (pc := 16) hX (tgt := 22) (by decide) dX6_plan_16 (fun h6 => ?_) (fun h6 => ?_)
  · refine J_aload_n (pc := 22) hX 1 rfl dX6_plan_22 ?_
    refine g_X6_16 (pc := 23) hX ht0 dX6_plan_23 ?_
    refine J_aload_n (pc := 26) hX 1 rfl dX6_plan_26 ?_
    refine g_X6_10 (pc := 27) hX ht0 dX6_plan_27 ?_
    refine J_call1 (fun I7 e8 => ?_)
    refine jrun_v (pc := 30) (jRunV hX s_X6_227 (ci := 4) (T := TX4) (N := 18) (As := [jr (rfC t0 0)]) (rest := []) rfl (by decide) (C_X4_takeFrom Y hz0 (rfC t0 1) (fs_6_1 t0 ht0) (rfC t0 0) (fs_6_0 t0 ht0) I4 L0 I7 e8) (fs_6_1 t0 ht0) rfl rfl ⟨by decide, by decide⟩ ⟨Nat.le_of_ble_eq_true rfl, Nat.le_of_ble_eq_true rfl⟩ (Nat.le_of_ble_eq_true rfl) dX6_plan_30) ?_
    refine J_iconst (pc := 33) hX (v := (0 : Int32)) (by decide) dX6_plan_33 ?_
    refine J_istore (pc := 34) hX (lo' := [(5, ji (0 : Int32)), (4, ji y3), (0, jr t0), (1, ji p0), (2, ji p1), (3, ji p2)]) (by decide) rfl dX6_plan_34 ?_
    refine J_iconst (pc := 36) hX (v := (0 : Int32)) (by decide) dX6_plan_36 ?_
    refine J_istore (pc := 37) hX (lo' := [(6, ji (0 : Int32)), (5, ji (0 : Int32)), (4, ji y3), (0, jr t0), (1, ji p0), (2, ji p1), (3, ji p2)]) (by decide) rfl dX6_plan_37 ?_
    refine J_iconst (pc := 39) hX (v := (0 : Int32)) (by decide) dX6_plan_39 ?_
    refine J_istore (pc := 40) hX (lo' := [(7, ji (0 : Int32)), (6, ji (0 : Int32)), (5, ji (0 : Int32)), (4, ji y3), (0, jr t0), (1, ji p0), (2, ji p1), (3, ji p2)]) (by decide) rfl dX6_plan_40 ?_
    refine J_iconst (pc := 42) hX (v := (0 : Int32)) (by decide) dX6_plan_42 ?_
    refine J_istore (pc := 43) hX (lo' := [(8, ji (0 : Int32)), (7, ji (0 : Int32)), (6, ji (0 : Int32)), (5, ji (0 : Int32)), (4, ji y3), (0, jr t0), (1, ji p0), (2, ji p1), (3, ji p2)]) (by decide) rfl dX6_plan_43 ?_
    refine J_join (fun (k13 : Int32 → Int32 → Int32 → jI → Option (Int32 × jI)) => ∀ (v9 : Int32) (v10 : Int32) (v11 : Int32) (I12 : jI), J Y Z 9 Qf (k13 v9 v10 v11 I12) 118 [(3, ji p2), (5, ji v9), (6, ji v10), (7, ji v11)] [] 0 0 NC shC rfC I12 L0) ?_ (fun k13 hk13 => ?_)
    · intro v9 v10 v11 I12
      try dsimp only
      refine J_iload_n (pc := 118) hX 0 rfl dX6_plan_118 ?_
      refine J_if_ne (pc := 119) hX (tgt := 125) (by decide) dX6_plan_119 (fun h14 => ?_) (fun h14 => ?_)
      · refine J_iload_n (pc := 125) hX 0 rfl dX6_plan_125 ?_
        refine J_iconst (pc := 126) hX (v := (1 : Int32)) (by decide) dX6_plan_126 ?_
        refine J_icmp_ne (pc := 127) hX (tgt := 135) (by decide) dX6_plan_127 (fun h15 => ?_) (fun h15 => ?_)
        · refine J_iload (pc := 135) hX 3 rfl dX6_plan_135 ?_
          exact J_iret (pc := 137) hX (hQ _) dX6_plan_137
        · refine J_iload (pc := 130) hX 2 rfl dX6_plan_130 ?_
          refine J_goto (pc := 132) hX (tgt := 137) (by decide) dX6_plan_132 ?_
          exact J_iret (pc := 137) hX (hQ _) dX6_plan_137
      · refine J_iload (pc := 122) hX 1 rfl dX6_plan_122 ?_
        exact J_iret (pc := 124) hX (hQ _) dX6_plan_124
    have lhg21 : ∀ mq : Nat, ∀ (v16 : Int32) (v17 : Int32) (v18 : Int32) (v19 : Int32) (I20 : jI), J Y Z 9 Qf (jfx (X6_plan_F1 t0 p1 k13) (fun _ _ _ _ _ => none) mq v16 v17 v18 v19 I20) 45 [(0, jr t0), (2, ji p1), (3, ji p2), (5, ji v16), (6, ji v17), (7, ji v18), (8, ji v19)] [] 0 0 NC shC rfC I20 L0 := by
      intro mq
      refine jfx_J (fun (_ : Nat) (g21 : Int32 → Int32 → Int32 → Int32 → jI → Option (Int32 × jI)) => ∀ (v16 : Int32) (v17 : Int32) (v18 : Int32) (v19 : Int32) (I20 : jI), J Y Z 9 Qf (g21 v16 v17 v18 v19 I20) 45 [(0, jr t0), (2, ji p1), (3, ji p2), (5, ji v16), (6, ji v17), (7, ji v18), (8, ji v19)] [] 0 0 NC shC rfC I20 L0) ?_ (fun _ g21 hg21 => ?_) mq
      · intro v16 v17 v18 v19 I20
        exact J_none
      intro v16 v17 v18 v19 I20
      unfold X6_plan_F1
      try dsimp only
      refine J_iload (pc := 45) hX 6 rfl dX6_plan_45 ?_
      refine J_iload_n (pc := 47) hX 1 rfl dX6_plan_47 ?_
      refine J_icmp_ge (pc := 48) hX (tgt := 118) (by decide) dX6_plan_48 (fun h22 => ?_) (fun h22 => ?_)
      · refine J_sub [2, 3, 4, 5] rfl ?_
        exact hk13 v16 v17 v18 I20
      · refine J_iload (pc := 51) hX 3 rfl dX6_plan_51 ?_
        refine J_aload_n (pc := 53) hX 0 rfl dX6_plan_53 ?_
        refine g_X6_16 (pc := 54) hX ht0 dX6_plan_54 ?_
        refine J_aload_n (pc := 57) hX 0 rfl dX6_plan_57 ?_
        refine J_iload (pc := 58) hX 6 rfl dX6_plan_58 ?_
        refine J_call1 (fun y23 e24 => ?_)
        refine jrun_i (pc := 60) (jRunV hX s_X6_244 (ci := 6) (T := TX6) (N := 8) (As := [ji v19]) (rest := [jr (rfC t0 1), ji v16]) rfl (by decide) (C_X6_toldAt Y hz0 t0 ht0 v19 I20 L0 y23 e24) ht0 rfl rfl ⟨by decide, by decide⟩ ⟨Nat.le_of_ble_eq_true rfl, Nat.le_of_ble_eq_true rfl⟩ (Nat.le_of_ble_eq_true rfl) dX6_plan_60) ?_
        refine J_iconst (pc := 63) hX (v := (0 : Int32)) (by decide) dX6_plan_63 ?_
        refine J_iconst (pc := 64) hX (v := (0 : Int32)) (by decide) dX6_plan_64 ?_
        refine J_call2 (fun y25 I26 e27 => ?_)
        refine jrun_i (pc := 65) (jRunV hX s_X6_152 (ci := 4) (T := TX4) (N := 18) (As := [ji y23, ji (0 : Int32), ji (0 : Int32)]) (rest := [ji v16]) rfl (by decide) (C_X4_access Y hz0 (rfC t0 1) (fs_6_1 t0 ht0) y23 (0 : Int32) (0 : Int32) I20 L0 y25 I26 e27) (fs_6_1 t0 ht0) rfl rfl ⟨by decide, by decide⟩ ⟨Nat.le_of_ble_eq_true rfl, Nat.le_of_ble_eq_true rfl⟩ (Nat.le_of_ble_eq_true rfl) dX6_plan_65) ?_
        refine J_iadd (pc := 68) hX dX6_plan_68 ?_
        refine J_leti (fun y28 => ?_)
        refine J_istore (pc := 69) hX (lo' := [(5, ji y28), (0, jr t0), (2, ji p1), (3, ji p2), (6, ji v17), (7, ji v18), (8, ji v19)]) (by decide) rfl dX6_plan_69 ?_
        refine J_iload (pc := 71) hX 4 rfl dX6_plan_71 ?_
        refine J_aload_n (pc := 73) hX 1 rfl dX6_plan_73 ?_
        refine g_X6_16 (pc := 74) hX ht0 dX6_plan_74 ?_
        refine g_X6_247 (pc := 77) hX (fs_6_1 t0 ht0) dX6_plan_77 ?_
        refine J_iconst (pc := 80) hX (v := (1 : Int32)) (by decide) dX6_plan_80 ?_
        refine J_vjoin (fun kq (y30 : Int32) => J Y Z 9 Qf (kq) 89 [(5, ji y28), (0, jr t0), (2, ji p1), (3, ji p2), (6, ji v17), (7, ji v18), (8, ji v19)] [ji y30, ji v17] 0 0 NC shC rfC I26 L0) (fun y30 => ?_) (fun hj => ?_)
        · try dsimp only
          refine J_iadd (pc := 89) hX dX6_plan_89 ?_
          refine J_leti (fun y31 => ?_)
          refine J_istore (pc := 90) hX (lo' := [(6, ji y31), (5, ji y28), (0, jr t0), (2, ji p1), (3, ji p2), (7, ji v18), (8, ji v19)]) (by decide) rfl dX6_plan_90 ?_
          refine J_iload (pc := 92) hX 5 rfl dX6_plan_92 ?_
          refine J_aload_n (pc := 94) hX 2 rfl dX6_plan_94 ?_
          refine g_X6_16 (pc := 95) hX ht0 dX6_plan_95 ?_
          refine g_X6_247 (pc := 98) hX (fs_6_1 t0 ht0) dX6_plan_98 ?_
          refine J_vjoin (fun kq (y33 : Int32) => J Y Z 9 Qf (kq) 109 [(6, ji y31), (5, ji y28), (0, jr t0), (2, ji p1), (3, ji p2), (7, ji v18), (8, ji v19)] [ji y33, ji v18] 0 0 NC shC rfC I26 L0) (fun y33 => ?_) (fun hj => ?_)
          · try dsimp only
            refine J_iadd (pc := 109) hX dX6_plan_109 ?_
            refine J_leti (fun y34 => ?_)
            refine J_istore (pc := 110) hX (lo' := [(7, ji y34), (6, ji y31), (5, ji y28), (0, jr t0), (2, ji p1), (3, ji p2), (8, ji v19)]) (by decide) rfl dX6_plan_110 ?_
            refine J_iinc (pc := 112) hX (v := (v19 + (1 : Int32))) (lo' := [(8, ji (v19 + (1 : Int32))), (7, ji y34), (6, ji y31), (5, ji y28), (0, jr t0), (2, ji p1), (3, ji p2)]) 6 rfl (by rfl) (by decide) rfl dX6_plan_112 ?_
            refine J_goto (pc := 115) hX (tgt := 45) (by decide) dX6_plan_115 ?_
            refine J_sub [4, 5, 6, 3, 2, 1, 0] rfl ?_
            exact hg21 y28 y31 y34 (v19 + (1 : Int32)) I26
          try dsimp only at hj
          refine J_if_neV (pc := 101) hX (tgt := 108) (by decide) dX6_plan_101 (fun h32 => ?_) (fun h32 => ?_)
          · refine J_iconst (pc := 108) hX (v := (0 : Int32)) (by decide) dX6_plan_108 ?_
            exact hj _
          · refine J_iconst (pc := 104) hX (v := (1 : Int32)) (by decide) dX6_plan_104 ?_
            refine J_goto (pc := 105) hX (tgt := 109) (by decide) dX6_plan_105 ?_
            exact hj _
        try dsimp only at hj
        refine J_icmp_neV (pc := 81) hX (tgt := 88) (by decide) dX6_plan_81 (fun h29 => ?_) (fun h29 => ?_)
        · refine J_iconst (pc := 88) hX (v := (0 : Int32)) (by decide) dX6_plan_88 ?_
          exact hj _
        · refine J_iconst (pc := 84) hX (v := (1 : Int32)) (by decide) dX6_plan_84 ?_
          refine J_goto (pc := 85) hX (tgt := 89) (by decide) dX6_plan_85 ?_
          exact hj _
    refine J_sub [5, 7, 8, 3, 2, 1, 0] rfl ?_
    exact lhg21 1000 (0 : Int32) (0 : Int32) (0 : Int32) (0 : Int32) I7
  · refine J_iload (pc := 19) hX 0 rfl dX6_plan_19 ?_
    exact J_iret (pc := 21) hX (hQ _) dX6_plan_21
theorem C_X6_plan (Y : jY) (hz0 : Y.zf = false) (t0 : Nat) (ht0 : shC t0 = 7) (p0 : Int32) (p1 : Int32) (p2 : Int32) (I0 : jI) (L0 : jL) (r : Int32) (I1 : jI) (h : X6_plan t0 p0 p1 p2 I0 L0 = some (r, I1)) : jMet Y yX6_plan cX6_plan 9 (some .int) 46 2208 0 0 [jr t0, ji p0, ji p1, ji p2] NC shC rfC I0 L0 (some (ji r)) NC shC rfC I1 L0 :=
  jmet_of _ _ h (fun Z r => jQ Y Z 0 0 (some (ji r.1)) NC shC rfC r.2 L0) (fun _ => rfl) (by decide) (Nat.le_of_ble_eq_true rfl) (fun Z hX => W_X6_plan hz0 t0 ht0 p0 p1 p2 I0 L0 hX (fun _ => rfl))
def X6_thinkSweptOut (t0 : Nat) (I0 : jI) : Option (jI) :=
(X4_takeFrom (rfC t0 1) (rfC t0 0) I0).bind (fun (I1 : jI) =>
(X4_sweepOut (rfC t0 1) I1).bind (fun (I3 : jI) =>
some I3))
set_option maxRecDepth 20000 in
set_option maxHeartbeats 4000000 in
theorem W_X6_thinkSweptOut {Y : jY} {Z : jZ} {Qf : jI → State → Prop} (hz0 : Y.zf = false) (t0 : Nat) (ht0 : shC t0 = 7) (I0 : jI) (L0 : jL) (hX : jOK Y Z RX6 cX6_thinkSweptOut 1 "thinkSweptOut" none 5 175 0 0) (hQ : ∀ r : jI, Qf r = jQ Y Z 0 0 none NC shC rfC r L0) : J Y Z 1 Qf (X6_thinkSweptOut t0 I0) 0 [(0, jr t0)] [] 0 0 NC shC rfC I0 L0 := by
  unfold X6_thinkSweptOut
  refine J_aload_n (pc := 0) hX 0 rfl dX6_thinkSweptOut_0 ?_
  refine g_X6_16 (pc := 1) hX ht0 dX6_thinkSweptOut_1 ?_
  refine J_aload_n (pc := 4) hX 0 rfl dX6_thinkSweptOut_4 ?_
  refine g_X6_10 (pc := 5) hX ht0 dX6_thinkSweptOut_5 ?_
  refine J_call1 (fun I1 e2 => ?_)
  refine jrun_v (pc := 8) (jRunV hX s_X6_227 (ci := 4) (T := TX4) (N := 18) (As := [jr (rfC t0 0)]) (rest := []) rfl (by decide) (C_X4_takeFrom Y hz0 (rfC t0 1) (fs_6_1 t0 ht0) (rfC t0 0) (fs_6_0 t0 ht0) I0 L0 I1 e2) (fs_6_1 t0 ht0) rfl rfl ⟨by decide, by decide⟩ ⟨Nat.le_of_ble_eq_true rfl, Nat.le_of_ble_eq_true rfl⟩ (Nat.le_of_ble_eq_true rfl) dX6_thinkSweptOut_8) ?_
  refine J_aload_n (pc := 11) hX 0 rfl dX6_thinkSweptOut_11 ?_
  refine g_X6_16 (pc := 12) hX ht0 dX6_thinkSweptOut_12 ?_
  refine J_call1 (fun I3 e4 => ?_)
  refine jrun_v (pc := 15) (jRunV hX s_X6_165 (ci := 4) (T := TX4) (N := 18) (As := []) (rest := []) rfl (by decide) (C_X4_sweepOut Y hz0 (rfC t0 1) (fs_6_1 t0 ht0) I1 L0 I3 e4) (fs_6_1 t0 ht0) rfl rfl ⟨by decide, by decide⟩ ⟨Nat.le_of_ble_eq_true rfl, Nat.le_of_ble_eq_true rfl⟩ (Nat.le_of_ble_eq_true rfl) dX6_thinkSweptOut_15) ?_
  exact J_vret (pc := 18) hX (hQ _) dX6_thinkSweptOut_18
theorem C_X6_thinkSweptOut (Y : jY) (hz0 : Y.zf = false) (t0 : Nat) (ht0 : shC t0 = 7) (I0 : jI) (L0 : jL) (I1 : jI) (h : X6_thinkSweptOut t0 I0 = some I1) : jMet Y yX6_thinkSweptOut cX6_thinkSweptOut 1 none 5 175 0 0 [jr t0] NC shC rfC I0 L0 none NC shC rfC I1 L0 :=
  jmet_of _ _ h (fun Z r => jQ Y Z 0 0 none NC shC rfC r L0) (fun _ => rfl) (by decide) (Nat.le_of_ble_eq_true rfl) (fun Z hX => W_X6_thinkSweptOut hz0 t0 ht0 I0 L0 hX (fun _ => rfl))
def X6_costInThought_F1 (t0 : Nat) (p0 : Int32) (g4 : Int32 → Int32 → jI → Option (Int32 × jI)) : Int32 → Int32 → jI → Option (Int32 × jI) := fun (v1 : Int32) (v2 : Int32) (I3 : jI) =>
if p0 ≤ v2 then (
some (v1, I3))
else (
(X6_toldAt t0 v2 I3).bind (fun (y6 : Int32) =>
jb2 (X4_access (rfC t0 1) y6 (0 : Int32) (0 : Int32) I3) (fun (y8 : Int32) (I9 : jI) =>
jlet ((v1 + y8)) (fun (y11 : Int32) =>
g4 y11 (v2 + (1 : Int32)) I9))))
def X6_costInThought (t0 : Nat) (p0 : Int32) (I0 : jI) : Option (Int32 × jI) :=
jfx (X6_costInThought_F1 t0 p0) (fun _ _ _ => none) 1000 (0 : Int32) (0 : Int32) I0
set_option maxRecDepth 20000 in
set_option maxHeartbeats 4000000 in
theorem W_X6_costInThought {Y : jY} {Z : jZ} {Qf : Int32 × jI → State → Prop} (hz0 : Y.zf = false) (t0 : Nat) (ht0 : shC t0 = 7) (p0 : Int32) (I0 : jI) (L0 : jL) (hX : jOK Y Z RX6 cX6_costInThought 4 "costInThought" (some .int) 46 2208 0 0) (hQ : ∀ r : Int32 × jI, Qf r = jQ Y Z 0 0 (some (ji r.1)) NC shC rfC r.2 L0) : J Y Z 4 Qf (X6_costInThought t0 p0 I0) 0 [(0, jr t0), (1, ji p0)] [] 0 0 NC shC rfC I0 L0 := by
  unfold X6_costInThought
  refine J_iconst (pc := 0) hX (v := (0 : Int32)) (by decide) dX6_costInThought_0 ?_
  refine J_istore_n (pc := 1) hX (lo' := [(2, ji (0 : Int32)), (0, jr t0), (1, ji p0)]) (by decide) rfl dX6_costInThought_1 ?_
  refine J_iconst (pc := 2) hX (v := (0 : Int32)) (by decide) dX6_costInThought_2 ?_
  refine J_istore_n (pc := 3) hX (lo' := [(3, ji (0 : Int32)), (2, ji (0 : Int32)), (0, jr t0), (1, ji p0)]) (by decide) rfl dX6_costInThought_3 ?_
  have lhg4 : ∀ mq : Nat, ∀ (v1 : Int32) (v2 : Int32) (I3 : jI), J Y Z 4 Qf (jfx (X6_costInThought_F1 t0 p0) (fun _ _ _ => none) mq v1 v2 I3) 4 [(0, jr t0), (1, ji p0), (2, ji v1), (3, ji v2)] [] 0 0 NC shC rfC I3 L0 := by
    intro mq
    refine jfx_J (fun (_ : Nat) (g4 : Int32 → Int32 → jI → Option (Int32 × jI)) => ∀ (v1 : Int32) (v2 : Int32) (I3 : jI), J Y Z 4 Qf (g4 v1 v2 I3) 4 [(0, jr t0), (1, ji p0), (2, ji v1), (3, ji v2)] [] 0 0 NC shC rfC I3 L0) ?_ (fun _ g4 hg4 => ?_) mq
    · intro v1 v2 I3
      exact J_none
    intro v1 v2 I3
    unfold X6_costInThought_F1
    try dsimp only
    refine J_iload_n (pc := 4) hX 3 rfl dX6_costInThought_4 ?_
    refine J_iload_n (pc := 5) hX 1 rfl dX6_costInThought_5 ?_
    refine J_icmp_ge (pc := 6) hX (tgt := 32) (by decide) dX6_costInThought_6 (fun h5 => ?_) (fun h5 => ?_)
    · refine J_iload_n (pc := 32) hX 2 rfl dX6_costInThought_32 ?_
      exact J_iret (pc := 33) hX (hQ _) dX6_costInThought_33
    · refine J_iload_n (pc := 9) hX 2 rfl dX6_costInThought_9 ?_
      refine J_aload_n (pc := 10) hX 0 rfl dX6_costInThought_10 ?_
      refine g_X6_16 (pc := 11) hX ht0 dX6_costInThought_11 ?_
      refine J_aload_n (pc := 14) hX 0 rfl dX6_costInThought_14 ?_
      refine J_iload_n (pc := 15) hX 3 rfl dX6_costInThought_15 ?_
      refine J_call1 (fun y6 e7 => ?_)
      refine jrun_i (pc := 16) (jRunV hX s_X6_244 (ci := 6) (T := TX6) (N := 8) (As := [ji v2]) (rest := [jr (rfC t0 1), ji v1]) rfl (by decide) (C_X6_toldAt Y hz0 t0 ht0 v2 I3 L0 y6 e7) ht0 rfl rfl ⟨by decide, by decide⟩ ⟨Nat.le_of_ble_eq_true rfl, Nat.le_of_ble_eq_true rfl⟩ (Nat.le_of_ble_eq_true rfl) dX6_costInThought_16) ?_
      refine J_iconst (pc := 19) hX (v := (0 : Int32)) (by decide) dX6_costInThought_19 ?_
      refine J_iconst (pc := 20) hX (v := (0 : Int32)) (by decide) dX6_costInThought_20 ?_
      refine J_call2 (fun y8 I9 e10 => ?_)
      refine jrun_i (pc := 21) (jRunV hX s_X6_152 (ci := 4) (T := TX4) (N := 18) (As := [ji y6, ji (0 : Int32), ji (0 : Int32)]) (rest := [ji v1]) rfl (by decide) (C_X4_access Y hz0 (rfC t0 1) (fs_6_1 t0 ht0) y6 (0 : Int32) (0 : Int32) I3 L0 y8 I9 e10) (fs_6_1 t0 ht0) rfl rfl ⟨by decide, by decide⟩ ⟨Nat.le_of_ble_eq_true rfl, Nat.le_of_ble_eq_true rfl⟩ (Nat.le_of_ble_eq_true rfl) dX6_costInThought_21) ?_
      refine J_iadd (pc := 24) hX dX6_costInThought_24 ?_
      refine J_leti (fun y11 => ?_)
      refine J_istore_n (pc := 25) hX (lo' := [(2, ji y11), (0, jr t0), (1, ji p0), (3, ji v2)]) (by decide) rfl dX6_costInThought_25 ?_
      refine J_iinc (pc := 26) hX (v := (v2 + (1 : Int32))) (lo' := [(3, ji (v2 + (1 : Int32))), (2, ji y11), (0, jr t0), (1, ji p0)]) 3 rfl (by rfl) (by decide) rfl dX6_costInThought_26 ?_
      refine J_goto (pc := 29) hX (tgt := 4) (by decide) dX6_costInThought_29 ?_
      refine J_sub [2, 3, 1, 0] rfl ?_
      exact hg4 y11 (v2 + (1 : Int32)) I9
  refine J_sub [2, 3, 1, 0] rfl ?_
  exact lhg4 1000 (0 : Int32) (0 : Int32) I0
theorem C_X6_costInThought (Y : jY) (hz0 : Y.zf = false) (t0 : Nat) (ht0 : shC t0 = 7) (p0 : Int32) (I0 : jI) (L0 : jL) (r : Int32) (I1 : jI) (h : X6_costInThought t0 p0 I0 = some (r, I1)) : jMet Y yX6_costInThought cX6_costInThought 4 (some .int) 46 2208 0 0 [jr t0, ji p0] NC shC rfC I0 L0 (some (ji r)) NC shC rfC I1 L0 :=
  jmet_of _ _ h (fun Z r => jQ Y Z 0 0 (some (ji r.1)) NC shC rfC r.2 L0) (fun _ => rfl) (by decide) (Nat.le_of_ble_eq_true rfl) (fun Z hX => W_X6_costInThought hz0 t0 ht0 p0 I0 L0 hX (fun _ => rfl))
def X6_rule_F1 (t0 : Nat) (p0 : Int32) (p2 : Int32) (g11 : Int32 → Int32 → Int32 → jI → Option (Int32 × jI)) : Int32 → Int32 → Int32 → jI → Option (Int32 × jI) := fun (v7 : Int32) (v8 : Int32) (v9 : Int32) (I10 : jI) =>
if (8 : Int32) < v9 then (
some (v7, I10))
else (
(X6_thinkSweptOut t0 I10).bind (fun (I13 : jI) =>
(X4_levelAt (rfC t0 1) p0 I13).bind (fun (x15 : Nat) =>
jlet (fun (I18 : jI) =>
jb2 (X6_costInThought t0 p2 I18) (fun (y20 : Int32) (I21 : jI) =>
jlet (fun (v23 : Int32) (v24 : Int32) =>
g11 v23 v24 (v9 + (1 : Int32)) I21) (fun (k25 : Int32 → Int32 → Option (Int32 × jI)) =>
jlet (
k25 v9 y20) (fun (k26 : Option (Int32 × jI)) =>
if v7 = (-1 : Int32) then (
k26)
else (
if v8 ≤ y20 then (
k25 v7 v8)
else (
k26)))))) (fun (k19 : jI → Option (Int32 × jI)) =>
if x15 = 0 then (
k19 I13)
else (
jlet (jup I13 x15 2 v9) (fun (I30 : jI) =>
k19 I30))))))
def X6_rule (t0 : Nat) (p0 : Int32) (p1 : Int32) (p2 : Int32) (I0 : jI) (L0 : jL) : Option (Int32 × jI) :=
(X6_isWithin p0 (1 : Int32) (I0 (rfC t0 0) 1)).bind (fun (y1 : Int32) =>
jb2 (X6_hear t0 p1 p2 y1 I0 L0) (fun (y3 : Int32) (I4 : jI) =>
if y3 = 0 then (
jfx (X6_rule_F1 t0 p0 p2) (fun _ _ _ _ => none) 1000 (-1 : Int32) (0 : Int32) (3 : Int32) I4)
else (
some (y3, I4))))
set_option maxRecDepth 20000 in
set_option maxHeartbeats 4000000 in
theorem W_X6_rule {Y : jY} {Z : jZ} {Qf : Int32 × jI → State → Prop} (hz0 : Y.zf = false) (t0 : Nat) (ht0 : shC t0 = 7) (p0 : Int32) (p1 : Int32) (p2 : Int32) (I0 : jI) (L0 : jL) (hX : jOK Y Z RX6 cX6_rule 10 "rule" (some .int) 47 2231 0 0) (hQ : ∀ r : Int32 × jI, Qf r = jQ Y Z 0 0 (some (ji r.1)) NC shC rfC r.2 L0) : J Y Z 10 Qf (X6_rule t0 p0 p1 p2 I0 L0) 0 [(0, jr t0), (1, ji p0), (2, ji p1), (3, ji p2)] [] 0 0 NC shC rfC I0 L0 := by
  unfold X6_rule
  refine J_aload_n (pc := 0) hX 0 rfl dX6_rule_0 ?_
  refine J_iload_n (pc := 1) hX 2 rfl dX6_rule_1 ?_
  refine J_iload_n (pc := 2) hX 3 rfl dX6_rule_2 ?_
  refine J_iload_n (pc := 3) hX 1 rfl dX6_rule_3 ?_
  refine J_iconst (pc := 4) hX (v := (1 : Int32)) (by decide) dX6_rule_4 ?_
  refine J_aload_n (pc := 5) hX 0 rfl dX6_rule_5 ?_
  refine g_X6_10 (pc := 6) hX ht0 dX6_rule_6 ?_
  refine g_X6_103 (pc := 9) hX (fs_6_0 t0 ht0) dX6_rule_9 ?_
  refine J_call1 (fun y1 e2 => ?_)
  refine jrun_i (pc := 12) (jRunS hX s_X6_47 (As := [ji p0, ji (1 : Int32), ji (I0 (rfC t0 0) 1)]) (rest := [ji p2, ji p1, jr t0]) (C_X6_isWithin Y hz0 p0 (1 : Int32) (I0 (rfC t0 0) 1) I0 L0 y1 e2) rfl rfl ⟨by decide, by decide⟩ ⟨Nat.le_of_ble_eq_true rfl, Nat.le_of_ble_eq_true rfl⟩ (Nat.le_of_ble_eq_true rfl) dX6_rule_12) ?_
  refine J_call2 (fun y3 I4 e5 => ?_)
  refine jrun_i (pc := 15) (jRunV hX s_X6_240 (ci := 6) (T := TX6) (N := 8) (As := [ji p1, ji p2, ji y1]) (rest := []) rfl (by decide) (C_X6_hear Y hz0 t0 ht0 p1 p2 y1 I0 L0 y3 I4 e5) ht0 rfl rfl ⟨by decide, by decide⟩ ⟨Nat.le_of_ble_eq_true rfl, Nat.le_of_ble_eq_true rfl⟩ (Nat.le_of_ble_eq_true rfl) dX6_rule_15) ?_
  refine J_istore (pc := 18) hX (lo' := [(4, ji y3), (0, jr t0), (1, ji p0), (2, ji p1), (3, ji p2)]) (by decide) rfl dX6_rule_18 ?_
  refine J_iload (pc := 20) hX 0 rfl dX6_rule_20 ?_
  refine J_if_eq (pc := 22) hX (tgt := 28) (by decide) dX6_rule_22 (fun h6 => ?_) (fun h6 => ?_)
  · refine J_iconst (pc := 28) hX (v := (-1 : Int32)) (by decide) dX6_rule_28 ?_
    refine J_istore (pc := 29) hX (lo' := [(5, ji (-1 : Int32)), (4, ji y3), (0, jr t0), (1, ji p0), (2, ji p1), (3, ji p2)]) (by decide) rfl dX6_rule_29 ?_
    refine J_iconst (pc := 31) hX (v := (0 : Int32)) (by decide) dX6_rule_31 ?_
    refine J_istore (pc := 32) hX (lo' := [(6, ji (0 : Int32)), (5, ji (-1 : Int32)), (4, ji y3), (0, jr t0), (1, ji p0), (2, ji p1), (3, ji p2)]) (by decide) rfl dX6_rule_32 ?_
    refine J_iconst (pc := 34) hX (v := (3 : Int32)) (by decide) dX6_rule_34 ?_
    refine J_istore (pc := 35) hX (lo' := [(7, ji (3 : Int32)), (6, ji (0 : Int32)), (5, ji (-1 : Int32)), (4, ji y3), (0, jr t0), (1, ji p0), (2, ji p1), (3, ji p2)]) (by decide) rfl dX6_rule_35 ?_
    have lhg11 : ∀ mq : Nat, ∀ (v7 : Int32) (v8 : Int32) (v9 : Int32) (I10 : jI), J Y Z 10 Qf (jfx (X6_rule_F1 t0 p0 p2) (fun _ _ _ _ => none) mq v7 v8 v9 I10) 37 [(0, jr t0), (1, ji p0), (3, ji p2), (5, ji v7), (6, ji v8), (7, ji v9)] [] 0 0 NC shC rfC I10 L0 := by
      intro mq
      refine jfx_J (fun (_ : Nat) (g11 : Int32 → Int32 → Int32 → jI → Option (Int32 × jI)) => ∀ (v7 : Int32) (v8 : Int32) (v9 : Int32) (I10 : jI), J Y Z 10 Qf (g11 v7 v8 v9 I10) 37 [(0, jr t0), (1, ji p0), (3, ji p2), (5, ji v7), (6, ji v8), (7, ji v9)] [] 0 0 NC shC rfC I10 L0) ?_ (fun _ g11 hg11 => ?_) mq
      · intro v7 v8 v9 I10
        exact J_none
      intro v7 v8 v9 I10
      unfold X6_rule_F1
      try dsimp only
      refine J_iload (pc := 37) hX 5 rfl dX6_rule_37 ?_
      refine J_bipush (pc := 39) hX (v := (8 : Int32)) (by decide) dX6_rule_39 ?_
      refine J_icmp_gt (pc := 41) hX (tgt := 104) (by decide) dX6_rule_41 (fun h12 => ?_) (fun h12 => ?_)
      · refine J_iload (pc := 104) hX 3 rfl dX6_rule_104 ?_
        exact J_iret (pc := 106) hX (hQ _) dX6_rule_106
      · refine J_aload_n (pc := 44) hX 0 rfl dX6_rule_44 ?_
        refine J_call1 (fun I13 e14 => ?_)
        refine jrun_v (pc := 45) (jRunV hX s_X6_250 (ci := 6) (T := TX6) (N := 8) (As := []) (rest := []) rfl (by decide) (C_X6_thinkSweptOut Y hz0 t0 ht0 I10 L0 I13 e14) ht0 rfl rfl ⟨by decide, by decide⟩ ⟨Nat.le_of_ble_eq_true rfl, Nat.le_of_ble_eq_true rfl⟩ (Nat.le_of_ble_eq_true rfl) dX6_rule_45) ?_
        refine J_aload_n (pc := 48) hX 0 rfl dX6_rule_48 ?_
        refine g_X6_16 (pc := 49) hX ht0 dX6_rule_49 ?_
        refine J_iload_n (pc := 52) hX 1 rfl dX6_rule_52 ?_
        refine J_call1 (fun x15 e16 => ?_)
        refine jrun_r (pc := 53) (jRunV hX s_X6_113 (ci := 4) (T := TX4) (N := 18) (As := [ji p0]) (rest := []) rfl (by decide) (C_X4_levelAt Y hz0 (rfC t0 1) (fs_6_1 t0 ht0) p0 I13 L0 x15 e16) (fs_6_1 t0 ht0) rfl rfl ⟨by decide, by decide⟩ ⟨Nat.le_of_ble_eq_true rfl, Nat.le_of_ble_eq_true rfl⟩ (Nat.le_of_ble_eq_true rfl) dX6_rule_53) ?_
        have t17 := T_X4_levelAt (rfC t0 1) (fs_6_1 t0 ht0) p0 I13 e16
        refine J_astore (pc := 56) hX (lo' := [(8, jr x15), (0, jr t0), (1, ji p0), (3, ji p2), (5, ji v7), (6, ji v8), (7, ji v9)]) (by decide) rfl dX6_rule_56 ?_
        refine J_aload (pc := 58) hX 0 rfl dX6_rule_58 ?_
        refine J_join (fun (k19 : jI → Option (Int32 × jI)) => ∀ (I18 : jI), J Y Z 10 Qf (k19 I18) 70 [(0, jr t0), (1, ji p0), (3, ji p2), (5, ji v7), (6, ji v8), (7, ji v9)] [] 0 0 NC shC rfC I18 L0) ?_ (fun k19 hk19 => ?_)
        · intro I18
          try dsimp only
          refine J_aload_n (pc := 70) hX 0 rfl dX6_rule_70 ?_
          refine J_iload_n (pc := 71) hX 2 rfl dX6_rule_71 ?_
          refine J_call2 (fun y20 I21 e22 => ?_)
          refine jrun_i (pc := 72) (jRunV hX s_X6_253 (ci := 6) (T := TX6) (N := 8) (As := [ji p2]) (rest := []) rfl (by decide) (C_X6_costInThought Y hz0 t0 ht0 p2 I18 L0 y20 I21 e22) ht0 rfl rfl ⟨by decide, by decide⟩ ⟨Nat.le_of_ble_eq_true rfl, Nat.le_of_ble_eq_true rfl⟩ (Nat.le_of_ble_eq_true rfl) dX6_rule_72) ?_
          refine J_istore (pc := 75) hX (lo' := [(9, ji y20), (0, jr t0), (1, ji p0), (3, ji p2), (5, ji v7), (6, ji v8), (7, ji v9)]) (by decide) rfl dX6_rule_75 ?_
          refine J_iload (pc := 77) hX 4 rfl dX6_rule_77 ?_
          refine J_iconst (pc := 79) hX (v := (-1 : Int32)) (by decide) dX6_rule_79 ?_
          refine J_join (fun (k25 : Int32 → Int32 → Option (Int32 × jI)) => ∀ (v23 : Int32) (v24 : Int32), J Y Z 10 Qf (k25 v23 v24) 98 [(0, jr t0), (1, ji p0), (3, ji p2), (5, ji v23), (6, ji v24), (7, ji v9)] [] 0 0 NC shC rfC I21 L0) ?_ (fun k25 hk25 => ?_)
          · intro v23 v24
            try dsimp only
            refine J_iinc (pc := 98) hX (v := (v9 + (1 : Int32))) (lo' := [(7, ji (v9 + (1 : Int32))), (0, jr t0), (1, ji p0), (3, ji p2), (5, ji v23), (6, ji v24)]) 5 rfl (by rfl) (by decide) rfl dX6_rule_98 ?_
            refine J_goto (pc := 101) hX (tgt := 37) (by decide) dX6_rule_101 ?_
            refine J_sub [1, 2, 3, 4, 5, 0] rfl ?_
            exact hg11 v23 v24 (v9 + (1 : Int32)) I21
          refine J_join (fun (k26 : Option (Int32 × jI)) => J Y Z 10 Qf (k26) 90 [(0, jr t0), (1, ji p0), (3, ji p2), (7, ji v9), (9, ji y20)] [] 0 0 NC shC rfC I21 L0) ?_ (fun k26 hk26 => ?_)
          · refine J_iload (pc := 90) hX 3 rfl dX6_rule_90 ?_
            refine J_istore (pc := 92) hX (lo' := [(5, ji v9), (0, jr t0), (1, ji p0), (3, ji p2), (7, ji v9), (9, ji y20)]) (by decide) rfl dX6_rule_92 ?_
            refine J_iload (pc := 94) hX 5 rfl dX6_rule_94 ?_
            refine J_istore (pc := 96) hX (lo' := [(6, ji y20), (5, ji v9), (0, jr t0), (1, ji p0), (3, ji p2), (7, ji v9), (9, ji y20)]) (by decide) rfl dX6_rule_96 ?_
            refine J_sub [2, 3, 4, 1, 0, 5] rfl ?_
            exact hk25 v9 y20
          refine J_icmp_eq (pc := 80) hX (tgt := 90) (by decide) dX6_rule_80 (fun h27 => ?_) (fun h27 => ?_)
          · refine J_sub [1, 2, 3, 6, 0] rfl ?_
            exact hk26
          · refine J_iload (pc := 83) hX 0 rfl dX6_rule_83 ?_
            refine J_iload (pc := 85) hX 5 rfl dX6_rule_85 ?_
            refine J_icmp_ge (pc := 87) hX (tgt := 98) (by decide) dX6_rule_87 (fun h28 => ?_) (fun h28 => ?_)
            · refine J_sub [1, 2, 3, 4, 5, 6] rfl ?_
              exact hk25 v7 v8
            · refine J_sub [1, 2, 3, 6, 0] rfl ?_
              exact hk26
        refine J_ifnull (pc := 60) hX (tgt := 70) (by decide) dX6_rule_60 (fun h29 => ?_) (fun h29 => ?_)
        · refine J_sub [1, 2, 3, 4, 5, 6] rfl ?_
          exact hk19 I13
        · refine J_aload (pc := 63) hX 0 rfl dX6_rule_63 ?_
          refine J_iload (pc := 65) hX 6 rfl dX6_rule_65 ?_
          refine p_X6_117 (pc := 67) hX (t17.resolve_left h29) dX6_rule_67 (fun I30 => ?_)
          refine J_sub [1, 2, 3, 4, 5, 6] rfl ?_
          exact hk19 I30
    refine J_sub [4, 5, 7, 2, 1, 0] rfl ?_
    exact lhg11 1000 (-1 : Int32) (0 : Int32) (3 : Int32) I4
  · refine J_iload (pc := 25) hX 0 rfl dX6_rule_25 ?_
    exact J_iret (pc := 27) hX (hQ _) dX6_rule_27
theorem C_X6_rule (Y : jY) (hz0 : Y.zf = false) (t0 : Nat) (ht0 : shC t0 = 7) (p0 : Int32) (p1 : Int32) (p2 : Int32) (I0 : jI) (L0 : jL) (r : Int32) (I1 : jI) (h : X6_rule t0 p0 p1 p2 I0 L0 = some (r, I1)) : jMet Y yX6_rule cX6_rule 10 (some .int) 47 2231 0 0 [jr t0, ji p0, ji p1, ji p2] NC shC rfC I0 L0 (some (ji r)) NC shC rfC I1 L0 :=
  jmet_of _ _ h (fun Z r => jQ Y Z 0 0 (some (ji r.1)) NC shC rfC r.2 L0) (fun _ => rfl) (by decide) (Nat.le_of_ble_eq_true rfl) (fun Z hX => W_X6_rule hz0 t0 ht0 p0 p1 p2 I0 L0 hX (fun _ => rfl))
def X6_size_F1 (t0 : Nat) (p0 : Int32) (p2 : Int32) (p3 : Int32) (g12 : Int32 → jI → Option (Int32 × jI)) : Int32 → jI → Option (Int32 × jI) := fun (v10 : Int32) (I11 : jI) =>
if (16 : Int32) < v10 then (
some ((-1 : Int32), I11))
else (
(X6_thinkSweptOut t0 I11).bind (fun (I14 : jI) =>
(X4_levelAt (rfC t0 1) p0 I14).bind (fun (x16 : Nat) =>
jlet (fun (I19 : jI) =>
jb2 (X6_costInThought t0 p2 I19) (fun (y21 : Int32) (I22 : jI) =>
if p3 < y21 then (
g12 (v10 + (1 : Int32)) I22)
else (
some (v10, I22)))) (fun (k20 : jI → Option (Int32 × jI)) =>
if x16 = 0 then (
k20 I14)
else (
jlet (jup I14 x16 0 v10) (fun (I26 : jI) =>
k20 I26))))))
def X6_size (t0 : Nat) (p0 : Int32) (p1 : Int32) (p2 : Int32) (p3 : Int32) (I0 : jI) (L0 : jL) : Option (Int32 × jI) :=
(X6_isWithin p0 (1 : Int32) (I0 (rfC t0 0) 1)).bind (fun (y1 : Int32) =>
jlet (if y1 = 0 then (0 : Int32) else (if p3 < 0 then (0 : Int32) else (1 : Int32))) (fun (y5 : Int32) =>
jb2 (X6_hear t0 p1 p2 y5 I0 L0) (fun (y6 : Int32) (I7 : jI) =>
if y6 = 0 then (
jfx (X6_size_F1 t0 p0 p2 p3) (fun _ _ => none) 1000 (1 : Int32) I7)
else (
some (y6, I7)))))
set_option maxRecDepth 20000 in
set_option maxHeartbeats 4000000 in
theorem W_X6_size {Y : jY} {Z : jZ} {Qf : Int32 × jI → State → Prop} (hz0 : Y.zf = false) (t0 : Nat) (ht0 : shC t0 = 7) (p0 : Int32) (p1 : Int32) (p2 : Int32) (p3 : Int32) (I0 : jI) (L0 : jL) (hX : jOK Y Z RX6 cX6_size 8 "size" (some .int) 47 2231 0 0) (hQ : ∀ r : Int32 × jI, Qf r = jQ Y Z 0 0 (some (ji r.1)) NC shC rfC r.2 L0) : J Y Z 8 Qf (X6_size t0 p0 p1 p2 p3 I0 L0) 0 [(0, jr t0), (1, ji p0), (2, ji p1), (3, ji p2), (4, ji p3)] [] 0 0 NC shC rfC I0 L0 := by
  unfold X6_size
  refine J_aload_n (pc := 0) hX 0 rfl dX6_size_0 ?_
  refine J_iload_n (pc := 1) hX 2 rfl dX6_size_1 ?_
  refine J_iload_n (pc := 2) hX 3 rfl dX6_size_2 ?_
  refine J_iload_n (pc := 3) hX 1 rfl dX6_size_3 ?_
  refine J_iconst (pc := 4) hX (v := (1 : Int32)) (by decide) dX6_size_4 ?_
  refine J_aload_n (pc := 5) hX 0 rfl dX6_size_5 ?_
  refine g_X6_10 (pc := 6) hX ht0 dX6_size_6 ?_
  refine g_X6_103 (pc := 9) hX (fs_6_0 t0 ht0) dX6_size_9 ?_
  refine J_call1 (fun y1 e2 => ?_)
  refine jrun_i (pc := 12) (jRunS hX s_X6_47 (As := [ji p0, ji (1 : Int32), ji (I0 (rfC t0 0) 1)]) (rest := [ji p2, ji p1, jr t0]) (C_X6_isWithin Y hz0 p0 (1 : Int32) (I0 (rfC t0 0) 1) I0 L0 y1 e2) rfl rfl ⟨by decide, by decide⟩ ⟨Nat.le_of_ble_eq_true rfl, Nat.le_of_ble_eq_true rfl⟩ (Nat.le_of_ble_eq_true rfl) dX6_size_12) ?_
  refine J_vjoin (fun kq (y5 : Int32) => J Y Z 8 Qf (kq) 28 [(0, jr t0), (1, ji p0), (2, ji p1), (3, ji p2), (4, ji p3)] [ji y5, ji p2, ji p1, jr t0] 0 0 NC shC rfC I0 L0) (fun y5 => ?_) (fun hj => ?_)
  · try dsimp only
    refine J_call2 (fun y6 I7 e8 => ?_)
    refine jrun_i (pc := 28) (jRunV hX s_X6_240 (ci := 6) (T := TX6) (N := 8) (As := [ji p1, ji p2, ji y5]) (rest := []) rfl (by decide) (C_X6_hear Y hz0 t0 ht0 p1 p2 y5 I0 L0 y6 I7 e8) ht0 rfl rfl ⟨by decide, by decide⟩ ⟨Nat.le_of_ble_eq_true rfl, Nat.le_of_ble_eq_true rfl⟩ (Nat.le_of_ble_eq_true rfl) dX6_size_28) ?_
    refine J_istore (pc := 31) hX (lo' := [(5, ji y6), (0, jr t0), (1, ji p0), (2, ji p1), (3, ji p2), (4, ji p3)]) (by decide) rfl dX6_size_31 ?_
    refine J_iload (pc := 33) hX 0 rfl dX6_size_33 ?_
    refine J_if_eq (pc := 35) hX (tgt := 41) (by decide) dX6_size_35 (fun h9 => ?_) (fun h9 => ?_)
    · refine J_iconst (pc := 41) hX (v := (1 : Int32)) (by decide) dX6_size_41 ?_
      refine J_istore (pc := 42) hX (lo' := [(6, ji (1 : Int32)), (5, ji y6), (0, jr t0), (1, ji p0), (2, ji p1), (3, ji p2), (4, ji p3)]) (by decide) rfl dX6_size_42 ?_
      have lhg12 : ∀ mq : Nat, ∀ (v10 : Int32) (I11 : jI), J Y Z 8 Qf (jfx (X6_size_F1 t0 p0 p2 p3) (fun _ _ => none) mq v10 I11) 44 [(0, jr t0), (1, ji p0), (3, ji p2), (4, ji p3), (6, ji v10)] [] 0 0 NC shC rfC I11 L0 := by
        intro mq
        refine jfx_J (fun (_ : Nat) (g12 : Int32 → jI → Option (Int32 × jI)) => ∀ (v10 : Int32) (I11 : jI), J Y Z 8 Qf (g12 v10 I11) 44 [(0, jr t0), (1, ji p0), (3, ji p2), (4, ji p3), (6, ji v10)] [] 0 0 NC shC rfC I11 L0) ?_ (fun _ g12 hg12 => ?_) mq
        · intro v10 I11
          exact J_none
        intro v10 I11
        unfold X6_size_F1
        try dsimp only
        refine J_iload (pc := 44) hX 4 rfl dX6_size_44 ?_
        refine J_bipush (pc := 46) hX (v := (16 : Int32)) (by decide) dX6_size_46 ?_
        refine J_icmp_gt (pc := 48) hX (tgt := 96) (by decide) dX6_size_48 (fun h13 => ?_) (fun h13 => ?_)
        · refine J_iconst (pc := 96) hX (v := (-1 : Int32)) (by decide) dX6_size_96 ?_
          exact J_iret (pc := 97) hX (hQ _) dX6_size_97
        · refine J_aload_n (pc := 51) hX 0 rfl dX6_size_51 ?_
          refine J_call1 (fun I14 e15 => ?_)
          refine jrun_v (pc := 52) (jRunV hX s_X6_250 (ci := 6) (T := TX6) (N := 8) (As := []) (rest := []) rfl (by decide) (C_X6_thinkSweptOut Y hz0 t0 ht0 I11 L0 I14 e15) ht0 rfl rfl ⟨by decide, by decide⟩ ⟨Nat.le_of_ble_eq_true rfl, Nat.le_of_ble_eq_true rfl⟩ (Nat.le_of_ble_eq_true rfl) dX6_size_52) ?_
          refine J_aload_n (pc := 55) hX 0 rfl dX6_size_55 ?_
          refine g_X6_16 (pc := 56) hX ht0 dX6_size_56 ?_
          refine J_iload_n (pc := 59) hX 1 rfl dX6_size_59 ?_
          refine J_call1 (fun x16 e17 => ?_)
          refine jrun_r (pc := 60) (jRunV hX s_X6_113 (ci := 4) (T := TX4) (N := 18) (As := [ji p0]) (rest := []) rfl (by decide) (C_X4_levelAt Y hz0 (rfC t0 1) (fs_6_1 t0 ht0) p0 I14 L0 x16 e17) (fs_6_1 t0 ht0) rfl rfl ⟨by decide, by decide⟩ ⟨Nat.le_of_ble_eq_true rfl, Nat.le_of_ble_eq_true rfl⟩ (Nat.le_of_ble_eq_true rfl) dX6_size_60) ?_
          have t18 := T_X4_levelAt (rfC t0 1) (fs_6_1 t0 ht0) p0 I14 e17
          refine J_astore (pc := 63) hX (lo' := [(7, jr x16), (0, jr t0), (1, ji p0), (3, ji p2), (4, ji p3), (6, ji v10)]) (by decide) rfl dX6_size_63 ?_
          refine J_aload (pc := 65) hX 0 rfl dX6_size_65 ?_
          refine J_join (fun (k20 : jI → Option (Int32 × jI)) => ∀ (I19 : jI), J Y Z 8 Qf (k20 I19) 77 [(0, jr t0), (1, ji p0), (3, ji p2), (4, ji p3), (6, ji v10)] [] 0 0 NC shC rfC I19 L0) ?_ (fun k20 hk20 => ?_)
          · intro I19
            try dsimp only
            refine J_aload_n (pc := 77) hX 0 rfl dX6_size_77 ?_
            refine J_iload_n (pc := 78) hX 2 rfl dX6_size_78 ?_
            refine J_call2 (fun y21 I22 e23 => ?_)
            refine jrun_i (pc := 79) (jRunV hX s_X6_253 (ci := 6) (T := TX6) (N := 8) (As := [ji p2]) (rest := []) rfl (by decide) (C_X6_costInThought Y hz0 t0 ht0 p2 I19 L0 y21 I22 e23) ht0 rfl rfl ⟨by decide, by decide⟩ ⟨Nat.le_of_ble_eq_true rfl, Nat.le_of_ble_eq_true rfl⟩ (Nat.le_of_ble_eq_true rfl) dX6_size_79) ?_
            refine J_iload (pc := 82) hX 3 rfl dX6_size_82 ?_
            refine J_icmp_gt (pc := 84) hX (tgt := 90) (by decide) dX6_size_84 (fun h24 => ?_) (fun h24 => ?_)
            · refine J_iinc (pc := 90) hX (v := (v10 + (1 : Int32))) (lo' := [(6, ji (v10 + (1 : Int32))), (0, jr t0), (1, ji p0), (3, ji p2), (4, ji p3)]) 4 rfl (by rfl) (by decide) rfl dX6_size_90 ?_
              refine J_goto (pc := 93) hX (tgt := 44) (by decide) dX6_size_93 ?_
              refine J_sub [1, 2, 3, 4, 0] rfl ?_
              exact hg12 (v10 + (1 : Int32)) I22
            · refine J_iload (pc := 87) hX 4 rfl dX6_size_87 ?_
              exact J_iret (pc := 89) hX (hQ _) dX6_size_89
          refine J_ifnull (pc := 67) hX (tgt := 77) (by decide) dX6_size_67 (fun h25 => ?_) (fun h25 => ?_)
          · refine J_sub [1, 2, 3, 4, 5] rfl ?_
            exact hk20 I14
          · refine J_aload (pc := 70) hX 0 rfl dX6_size_70 ?_
            refine J_iload (pc := 72) hX 5 rfl dX6_size_72 ?_
            refine p_X6_202 (pc := 74) hX (t18.resolve_left h25) dX6_size_74 (fun I26 => ?_)
            refine J_sub [1, 2, 3, 4, 5] rfl ?_
            exact hk20 I26
      refine J_sub [2, 3, 5, 6, 0] rfl ?_
      exact lhg12 1000 (1 : Int32) I7
    · refine J_iload (pc := 38) hX 0 rfl dX6_size_38 ?_
      exact J_iret (pc := 40) hX (hQ _) dX6_size_40
  try dsimp only at hj
  refine J_if_eqV (pc := 15) hX (tgt := 27) (by decide) dX6_size_15 (fun h4 => ?_) (fun h4 => ?_)
  · refine J_iconst (pc := 27) hX (v := (0 : Int32)) (by decide) dX6_size_27 ?_
    exact hj _
  · refine J_iload (pc := 18) hX 4 rfl dX6_size_18 ?_
    refine J_if_ltV (pc := 20) hX (tgt := 27) (by decide) dX6_size_20 (fun h3 => ?_) (fun h3 => ?_)
    · refine J_iconst (pc := 27) hX (v := (0 : Int32)) (by decide) dX6_size_27 ?_
      exact hj _
    · refine J_iconst (pc := 23) hX (v := (1 : Int32)) (by decide) dX6_size_23 ?_
      refine J_goto (pc := 24) hX (tgt := 28) (by decide) dX6_size_24 ?_
      exact hj _
theorem C_X6_size (Y : jY) (hz0 : Y.zf = false) (t0 : Nat) (ht0 : shC t0 = 7) (p0 : Int32) (p1 : Int32) (p2 : Int32) (p3 : Int32) (I0 : jI) (L0 : jL) (r : Int32) (I1 : jI) (h : X6_size t0 p0 p1 p2 p3 I0 L0 = some (r, I1)) : jMet Y yX6_size cX6_size 8 (some .int) 47 2231 0 0 [jr t0, ji p0, ji p1, ji p2, ji p3] NC shC rfC I0 L0 (some (ji r)) NC shC rfC I1 L0 :=
  jmet_of _ _ h (fun Z r => jQ Y Z 0 0 (some (ji r.1)) NC shC rfC r.2 L0) (fun _ => rfl) (by decide) (Nat.le_of_ble_eq_true rfl) (fun Z hX => W_X6_size hz0 t0 ht0 p0 p1 p2 p3 I0 L0 hX (fun _ => rfl))
