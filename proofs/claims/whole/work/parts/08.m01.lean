def X3_hasElements (t0 : Nat) (p0 : Int32) (p1 : Int32) (I0 : jI) : Option (Int32) :=
if p0 < 0 then (
some (0 : Int32))
else (
if p1 < 0 then (
some (0 : Int32))
else (
if (I0 t0 2) < p0 then (
some (0 : Int32))
else (
if ((I0 t0 2) - p0) < p1 then (
some (0 : Int32))
else (
some (1 : Int32)))))
set_option maxRecDepth 20000 in
set_option maxHeartbeats 4000000 in
theorem W_X3_hasElements {Y : jY} {Z : jZ} {Qf : Int32 → State → Prop} (hz0 : Y.zf = false) (t0 : Nat) (ht0 : shC t0 = 4) (p0 : Int32) (p1 : Int32) (I0 : jI) (L0 : jL) (hX : jOK Y Z RX3 cX3_hasElements 3 "hasElements" (some .boolean) 1 80 0 0) (hQ : ∀ r : Int32, Qf r = jQ Y Z 0 0 (some (ji r)) NC shC rfC I0 L0) : J Y Z 3 Qf (X3_hasElements t0 p0 p1 I0) 0 [(0, jr t0), (1, ji p0), (2, ji p1)] [] 0 0 NC shC rfC I0 L0 := by
  unfold X3_hasElements
  refine J_iload_n (pc := 0) hX 1 rfl dX3_hasElements_0 ?_
  refine J_if_lt (pc := 1) hX (tgt := 30) (by decide) dX3_hasElements_1 (fun h1 => ?_) (fun h1 => ?_)
  · refine J_iconst (pc := 30) hX (v := (0 : Int32)) (by decide) dX3_hasElements_30 ?_
    exact J_zret (pc := 31) hX (by decide) (hQ _) dX3_hasElements_31
  · refine J_iload_n (pc := 4) hX 2 rfl dX3_hasElements_4 ?_
    refine J_if_lt (pc := 5) hX (tgt := 30) (by decide) dX3_hasElements_5 (fun h2 => ?_) (fun h2 => ?_)
    · refine J_iconst (pc := 30) hX (v := (0 : Int32)) (by decide) dX3_hasElements_30 ?_
      exact J_zret (pc := 31) hX (by decide) (hQ _) dX3_hasElements_31
    · refine J_iload_n (pc := 8) hX 1 rfl dX3_hasElements_8 ?_
      refine J_aload_n (pc := 9) hX 0 rfl dX3_hasElements_9 ?_
      refine g_X3_22 (pc := 10) hX ht0 dX3_hasElements_10 ?_
      refine J_icmp_gt (pc := 13) hX (tgt := 30) (by decide) dX3_hasElements_13 (fun h3 => ?_) (fun h3 => ?_)
      · refine J_iconst (pc := 30) hX (v := (0 : Int32)) (by decide) dX3_hasElements_30 ?_
        exact J_zret (pc := 31) hX (by decide) (hQ _) dX3_hasElements_31
      · refine J_iload_n (pc := 16) hX 2 rfl dX3_hasElements_16 ?_
        refine J_aload_n (pc := 17) hX 0 rfl dX3_hasElements_17 ?_
        refine g_X3_22 (pc := 18) hX ht0 dX3_hasElements_18 ?_
        refine J_iload_n (pc := 21) hX 1 rfl dX3_hasElements_21 ?_
        refine J_isub (pc := 22) hX dX3_hasElements_22 ?_
        refine J_icmp_gt (pc := 23) hX (tgt := 30) (by decide) dX3_hasElements_23 (fun h4 => ?_) (fun h4 => ?_)
        · refine J_iconst (pc := 30) hX (v := (0 : Int32)) (by decide) dX3_hasElements_30 ?_
          exact J_zret (pc := 31) hX (by decide) (hQ _) dX3_hasElements_31
        · refine J_iconst (pc := 26) hX (v := (1 : Int32)) (by decide) dX3_hasElements_26 ?_
          refine J_goto (pc := 27) hX (tgt := 31) (by decide) dX3_hasElements_27 ?_
          exact J_zret (pc := 31) hX (by decide) (hQ _) dX3_hasElements_31
theorem C_X3_hasElements (Y : jY) (hz0 : Y.zf = false) (t0 : Nat) (ht0 : shC t0 = 4) (p0 : Int32) (p1 : Int32) (I0 : jI) (L0 : jL) (r : Int32) (h : X3_hasElements t0 p0 p1 I0 = some r) : jMet Y yX3_hasElements cX3_hasElements 3 (some .boolean) 1 80 0 0 [jr t0, ji p0, ji p1] NC shC rfC I0 L0 (some (ji r)) NC shC rfC I0 L0 :=
  jmet_of _ _ h (fun Z r => jQ Y Z 0 0 (some (ji r)) NC shC rfC I0 L0) (fun _ => rfl) (by decide) (Nat.le_of_ble_eq_true rfl) (fun Z hX => W_X3_hasElements hz0 t0 ht0 p0 p1 I0 L0 hX (fun _ => rfl))
def X3_elementAt (t0 : Nat) (p0 : Int32) (I0 : jI) (L0 : jL) : Option (Int64) :=
(X3_hasElement t0 p0 I0).bind (fun (y1 : Int32) =>
if y1 = 0 then (
some (0 : Int64))
else (
if jin p0 40 then (
some (L0 (rfC t0 3) (p0).toNatClampNeg)) else none))
set_option maxRecDepth 20000 in
set_option maxHeartbeats 4000000 in
theorem W_X3_elementAt {Y : jY} {Z : jZ} {Qf : Int64 → State → Prop} (hz0 : Y.zf = false) (t0 : Nat) (ht0 : shC t0 = 4) (p0 : Int32) (I0 : jI) (L0 : jL) (hX : jOK Y Z RX3 cX3_elementAt 2 "elementAt" (some .long) 3 123 0 0) (hQ : ∀ r : Int64, Qf r = jQ Y Z 0 0 (some (jl r)) NC shC rfC I0 L0) : J Y Z 2 Qf (X3_elementAt t0 p0 I0 L0) 0 [(0, jr t0), (1, ji p0)] [] 0 0 NC shC rfC I0 L0 := by
  unfold X3_elementAt
  refine J_aload_n (pc := 0) hX 0 rfl dX3_elementAt_0 ?_
  refine J_iload_n (pc := 1) hX 1 rfl dX3_elementAt_1 ?_
  refine J_call1 (fun y1 e2 => ?_)
  refine jrun_i (pc := 2) (jRunV hX s_X3_32 (ci := 3) (T := TX3) (N := 4) (As := [ji p0]) (rest := []) rfl (by decide) (C_X3_hasElement Y hz0 t0 ht0 p0 I0 L0 y1 e2) ht0 rfl rfl ⟨by decide, by decide⟩ ⟨Nat.le_of_ble_eq_true rfl, Nat.le_of_ble_eq_true rfl⟩ (Nat.le_of_ble_eq_true rfl) dX3_elementAt_2) ?_
  refine J_if_eq (pc := 5) hX (tgt := 17) (by decide) dX3_elementAt_5 (fun h3 => ?_) (fun h3 => ?_)
  · refine J_lconst (pc := 17) hX (v := (0 : Int64)) (by decide) dX3_elementAt_17 ?_
    exact J_lret (pc := 18) hX (hQ _) dX3_elementAt_18
  · refine J_aload_n (pc := 8) hX 0 rfl dX3_elementAt_8 ?_
    refine g_X3_18 (pc := 9) hX ht0 dX3_elementAt_9 ?_
    refine J_iload_n (pc := 12) hX 1 rfl dX3_elementAt_12 ?_
    refine J_lald (pc := 13) hX (N := 40) (fs_3_3 t0 ht0) (by decide) dX3_elementAt_13 (fun h4 => ?_)
    refine J_goto (pc := 14) hX (tgt := 18) (by decide) dX3_elementAt_14 ?_
    exact J_lret (pc := 18) hX (hQ _) dX3_elementAt_18
theorem C_X3_elementAt (Y : jY) (hz0 : Y.zf = false) (t0 : Nat) (ht0 : shC t0 = 4) (p0 : Int32) (I0 : jI) (L0 : jL) (r : Int64) (h : X3_elementAt t0 p0 I0 L0 = some r) : jMet Y yX3_elementAt cX3_elementAt 2 (some .long) 3 123 0 0 [jr t0, ji p0] NC shC rfC I0 L0 (some (jl r)) NC shC rfC I0 L0 :=
  jmet_of _ _ h (fun Z r => jQ Y Z 0 0 (some (jl r)) NC shC rfC I0 L0) (fun _ => rfl) (by decide) (Nat.le_of_ble_eq_true rfl) (fun Z hX => W_X3_elementAt hz0 t0 ht0 p0 I0 L0 hX (fun _ => rfl))
def X3_lowestBits (t0 : Nat) (p0 : Int64) (I0 : jI) : Option (Int64) :=
if (I0 t0 0) = (0 : Int32) then (
some ((((p0).toInt32).toInt8.toInt32).toInt64))
else if (I0 t0 0) = (1 : Int32) then (
some ((((p0).toInt32).toInt16.toInt32).toInt64))
else if (I0 t0 0) = (2 : Int32) then (
some (((p0).toInt32).toInt64))
else if (I0 t0 0) = (3 : Int32) then (
some p0)
else if (I0 t0 0) = (4 : Int32) then (
if (lg_cmp p0 (0 : Int64)) = 0 then (
some (0 : Int64))
else (
some (1 : Int64)))
else (
some p0)
set_option maxRecDepth 20000 in
set_option maxHeartbeats 4000000 in
theorem W_X3_lowestBits {Y : jY} {Z : jZ} {Qf : Int64 → State → Prop} (hz0 : Y.zf = false) (t0 : Nat) (ht0 : shC t0 = 4) (p0 : Int64) (I0 : jI) (L0 : jL) (hX : jOK Y Z RX3 cX3_lowestBits 3 "lowestBits" (some .long) 1 80 0 0) (hQ : ∀ r : Int64, Qf r = jQ Y Z 0 0 (some (jl r)) NC shC rfC I0 L0) : J Y Z 3 Qf (X3_lowestBits t0 p0 I0) 0 [(0, jr t0), (1, jl p0)] [] 0 0 NC shC rfC I0 L0 := by
  unfold X3_lowestBits
  refine J_aload_n (pc := 0) hX 0 rfl dX3_lowestBits_0 ?_
  refine g_X3_9 (pc := 1) hX ht0 dX3_lowestBits_1 ?_
  refine J_swc (0 : Int32) (fun h1 => ?_) (fun h1 => ?_)
  · refine J_swIn (pc := 4) hX (tgt := 40) (off := 36) (0 : Int32) h1 (by decide) (by decide) rfl (by decide) dX3_lowestBits_4 ?_
    refine J_lload_n (pc := 40) hX 1 rfl dX3_lowestBits_40 ?_
    refine J_l2i (pc := 41) hX dX3_lowestBits_41 ?_
    refine J_i2b (pc := 42) hX dX3_lowestBits_42 ?_
    refine J_i2l (pc := 43) hX dX3_lowestBits_43 ?_
    exact J_lret (pc := 44) hX (hQ _) dX3_lowestBits_44
  refine J_swc (1 : Int32) (fun h2 => ?_) (fun h2 => ?_)
  · refine J_swIn (pc := 4) hX (tgt := 45) (off := 41) (1 : Int32) h2 (by decide) (by decide) rfl (by decide) dX3_lowestBits_4 ?_
    refine J_lload_n (pc := 45) hX 1 rfl dX3_lowestBits_45 ?_
    refine J_l2i (pc := 46) hX dX3_lowestBits_46 ?_
    refine J_i2s (pc := 47) hX dX3_lowestBits_47 ?_
    refine J_i2l (pc := 48) hX dX3_lowestBits_48 ?_
    exact J_lret (pc := 49) hX (hQ _) dX3_lowestBits_49
  refine J_swc (2 : Int32) (fun h3 => ?_) (fun h3 => ?_)
  · refine J_swIn (pc := 4) hX (tgt := 50) (off := 46) (2 : Int32) h3 (by decide) (by decide) rfl (by decide) dX3_lowestBits_4 ?_
    refine J_lload_n (pc := 50) hX 1 rfl dX3_lowestBits_50 ?_
    refine J_l2i (pc := 51) hX dX3_lowestBits_51 ?_
    refine J_i2l (pc := 52) hX dX3_lowestBits_52 ?_
    exact J_lret (pc := 53) hX (hQ _) dX3_lowestBits_53
  refine J_swc (3 : Int32) (fun h4 => ?_) (fun h4 => ?_)
  · refine J_swIn (pc := 4) hX (tgt := 66) (off := 62) (3 : Int32) h4 (by decide) (by decide) rfl (by decide) dX3_lowestBits_4 ?_
    refine J_lload_n (pc := 66) hX 1 rfl dX3_lowestBits_66 ?_
    exact J_lret (pc := 67) hX (hQ _) dX3_lowestBits_67
  refine J_swc (4 : Int32) (fun h5 => ?_) (fun h5 => ?_)
  · refine J_swIn (pc := 4) hX (tgt := 54) (off := 50) (4 : Int32) h5 (by decide) (by decide) rfl (by decide) dX3_lowestBits_4 ?_
    refine J_lload_n (pc := 54) hX 1 rfl dX3_lowestBits_54 ?_
    refine J_lconst (pc := 55) hX (v := (0 : Int64)) (by decide) dX3_lowestBits_55 ?_
    refine J_lcmp (pc := 56) hX dX3_lowestBits_56 ?_
    refine J_if_ne (pc := 57) hX (tgt := 64) (by decide) dX3_lowestBits_57 (fun h6 => ?_) (fun h6 => ?_)
    · refine J_lconst (pc := 64) hX (v := (1 : Int64)) (by decide) dX3_lowestBits_64 ?_
      exact J_lret (pc := 65) hX (hQ _) dX3_lowestBits_65
    · refine J_lconst (pc := 60) hX (v := (0 : Int64)) (by decide) dX3_lowestBits_60 ?_
      refine J_goto (pc := 61) hX (tgt := 65) (by decide) dX3_lowestBits_61 ?_
      exact J_lret (pc := 65) hX (hQ _) dX3_lowestBits_65
  refine J_swOut (pc := 4) hX (tgt := 66) (by decide) (jsw_2 (jsw_1 (b := 5) (4 : Int32) (jsw_1 (b := 4) (3 : Int32) (jsw_1 (b := 3) (2 : Int32) (jsw_1 (b := 2) (1 : Int32) (jsw_1 (b := 1) (0 : Int32) jsw_0 h1 (by decide) (by decide)) h2 (by decide) (by decide)) h3 (by decide) (by decide)) h4 (by decide) (by decide)) h5 (by decide) (by decide)) (by decide)) dX3_lowestBits_4 ?_
  refine J_lload_n (pc := 66) hX 1 rfl dX3_lowestBits_66 ?_
  exact J_lret (pc := 67) hX (hQ _) dX3_lowestBits_67
theorem C_X3_lowestBits (Y : jY) (hz0 : Y.zf = false) (t0 : Nat) (ht0 : shC t0 = 4) (p0 : Int64) (I0 : jI) (L0 : jL) (r : Int64) (h : X3_lowestBits t0 p0 I0 = some r) : jMet Y yX3_lowestBits cX3_lowestBits 3 (some .long) 1 80 0 0 [jr t0, jl p0] NC shC rfC I0 L0 (some (jl r)) NC shC rfC I0 L0 :=
  jmet_of _ _ h (fun Z r => jQ Y Z 0 0 (some (jl r)) NC shC rfC I0 L0) (fun _ => rfl) (by decide) (Nat.le_of_ble_eq_true rfl) (fun Z hX => W_X3_lowestBits hz0 t0 ht0 p0 I0 L0 hX (fun _ => rfl))
def X3_putElement (t0 : Nat) (p0 : Int32) (p1 : Int64) (I0 : jI) (L0 : jL) : Option (jL) :=
(X3_hasElement t0 p0 I0).bind (fun (y1 : Int32) =>
if y1 = 0 then (
some L0)
else (
(X3_lowestBits t0 p1 I0).bind (fun (y4 : Int64) =>
if jin p0 40 then jlet (jup L0 (rfC t0 3) (p0).toNatClampNeg y4) (fun (L7 : jL) =>
some L7) else none)))
set_option maxRecDepth 20000 in
set_option maxHeartbeats 4000000 in
theorem W_X3_putElement {Y : jY} {Z : jZ} {Qf : jL → State → Prop} (hz0 : Y.zf = false) (t0 : Nat) (ht0 : shC t0 = 4) (p0 : Int32) (p1 : Int64) (I0 : jI) (L0 : jL) (hX : jOK Y Z RX3 cX3_putElement 4 "putElement" none 3 123 0 0) (hQ : ∀ r : jL, Qf r = jQ Y Z 0 0 none NC shC rfC I0 r) : J Y Z 4 Qf (X3_putElement t0 p0 p1 I0 L0) 0 [(0, jr t0), (1, ji p0), (2, jl p1)] [] 0 0 NC shC rfC I0 L0 := by
  unfold X3_putElement
  refine J_aload_n (pc := 0) hX 0 rfl dX3_putElement_0 ?_
  refine J_iload_n (pc := 1) hX 1 rfl dX3_putElement_1 ?_
  refine J_call1 (fun y1 e2 => ?_)
  refine jrun_i (pc := 2) (jRunV hX s_X3_32 (ci := 3) (T := TX3) (N := 4) (As := [ji p0]) (rest := []) rfl (by decide) (C_X3_hasElement Y hz0 t0 ht0 p0 I0 L0 y1 e2) ht0 rfl rfl ⟨by decide, by decide⟩ ⟨Nat.le_of_ble_eq_true rfl, Nat.le_of_ble_eq_true rfl⟩ (Nat.le_of_ble_eq_true rfl) dX3_putElement_2) ?_
  refine J_if_eq (pc := 5) hX (tgt := 19) (by decide) dX3_putElement_5 (fun h3 => ?_) (fun h3 => ?_)
  · exact J_vret (pc := 19) hX (hQ _) dX3_putElement_19
  · refine J_aload_n (pc := 8) hX 0 rfl dX3_putElement_8 ?_
    refine g_X3_18 (pc := 9) hX ht0 dX3_putElement_9 ?_
    refine J_iload_n (pc := 12) hX 1 rfl dX3_putElement_12 ?_
    refine J_aload_n (pc := 13) hX 0 rfl dX3_putElement_13 ?_
    refine J_lload_n (pc := 14) hX 2 rfl dX3_putElement_14 ?_
    refine J_call1 (fun y4 e5 => ?_)
    refine jrun_l (pc := 15) (jRunV hX s_X3_36 (ci := 3) (T := TX3) (N := 4) (As := [jl p1]) (rest := [ji p0, jr (rfC t0 3)]) rfl (by decide) (C_X3_lowestBits Y hz0 t0 ht0 p1 I0 L0 y4 e5) ht0 rfl rfl ⟨by decide, by decide⟩ ⟨Nat.le_of_ble_eq_true rfl, Nat.le_of_ble_eq_true rfl⟩ (Nat.le_of_ble_eq_true rfl) dX3_putElement_15) ?_
    refine J_last (pc := 18) hX (N := 40) (fs_3_3 t0 ht0) (by decide) dX3_putElement_18 (fun h6 L7 => ?_)
    exact J_vret (pc := 19) hX (hQ _) dX3_putElement_19
theorem C_X3_putElement (Y : jY) (hz0 : Y.zf = false) (t0 : Nat) (ht0 : shC t0 = 4) (p0 : Int32) (p1 : Int64) (I0 : jI) (L0 : jL) (L1 : jL) (h : X3_putElement t0 p0 p1 I0 L0 = some L1) : jMet Y yX3_putElement cX3_putElement 4 none 3 123 0 0 [jr t0, ji p0, jl p1] NC shC rfC I0 L0 none NC shC rfC I0 L1 :=
  jmet_of _ _ h (fun Z r => jQ Y Z 0 0 none NC shC rfC I0 r) (fun _ => rfl) (by decide) (Nat.le_of_ble_eq_true rfl) (fun Z hX => W_X3_putElement hz0 t0 ht0 p0 p1 I0 L0 hX (fun _ => rfl))
def X4_levelAt (t0 : Nat) (p0 : Int32) (I0 : jI) : Option (Nat) :=
if p0 < (1 : Int32) then (
some 0)
else (
if (I0 t0 1) < p0 then (
some 0)
else (
if (4 : Int32) < p0 then (
some 0)
else (
if jin (p0 - (1 : Int32)) 4 then (
some (rfC (rfC t0 0) ((p0 - (1 : Int32))).toNatClampNeg)) else none)))
set_option maxRecDepth 20000 in
set_option maxHeartbeats 4000000 in
theorem W_X4_levelAt {Y : jY} {Z : jZ} {Qf : Nat → State → Prop} (hz0 : Y.zf = false) (t0 : Nat) (ht0 : shC t0 = 5) (p0 : Int32) (I0 : jI) (L0 : jL) (hX : jOK Y Z RX4 cX4_levelAt 2 "levelAt" (some (.object "PageLevels$Level")) 1 80 0 0) (hQ : ∀ r : Nat, Qf r = jQ Y Z 0 0 (some (jr r)) NC shC rfC I0 L0) : J Y Z 2 Qf (X4_levelAt t0 p0 I0) 0 [(0, jr t0), (1, ji p0)] [] 0 0 NC shC rfC I0 L0 := by
  unfold X4_levelAt
  refine J_iload_n (pc := 0) hX 1 rfl dX4_levelAt_0 ?_
  refine J_iconst (pc := 1) hX (v := (1 : Int32)) (by decide) dX4_levelAt_1 ?_
  refine J_icmp_lt (pc := 2) hX (tgt := 33) (by decide) dX4_levelAt_2 (fun h1 => ?_) (fun h1 => ?_)
  · refine J_null (pc := 33) hX dX4_levelAt_33 ?_
    exact J_aret (pc := 34) hX (hQ _) dX4_levelAt_34
  · refine J_iload_n (pc := 5) hX 1 rfl dX4_levelAt_5 ?_
    refine J_aload_n (pc := 6) hX 0 rfl dX4_levelAt_6 ?_
    refine g_X4_43 (pc := 7) hX ht0 dX4_levelAt_7 ?_
    refine J_icmp_gt (pc := 10) hX (tgt := 33) (by decide) dX4_levelAt_10 (fun h2 => ?_) (fun h2 => ?_)
    · refine J_null (pc := 33) hX dX4_levelAt_33 ?_
      exact J_aret (pc := 34) hX (hQ _) dX4_levelAt_34
    · refine J_iload_n (pc := 13) hX 1 rfl dX4_levelAt_13 ?_
      refine J_aload_n (pc := 14) hX 0 rfl dX4_levelAt_14 ?_
      refine g_X4_11 (pc := 15) hX ht0 dX4_levelAt_15 ?_
      refine J_alen (pc := 18) hX (v := (4 : Int32)) (fs_4_0 t0 ht0) (by decide) dX4_levelAt_18 ?_
      refine J_icmp_gt (pc := 19) hX (tgt := 33) (by decide) dX4_levelAt_19 (fun h3 => ?_) (fun h3 => ?_)
      · refine J_null (pc := 33) hX dX4_levelAt_33 ?_
        exact J_aret (pc := 34) hX (hQ _) dX4_levelAt_34
      · refine J_aload_n (pc := 22) hX 0 rfl dX4_levelAt_22 ?_
        refine g_X4_11 (pc := 23) hX ht0 dX4_levelAt_23 ?_
        refine J_iload_n (pc := 26) hX 1 rfl dX4_levelAt_26 ?_
        refine J_iconst (pc := 27) hX (v := (1 : Int32)) (by decide) dX4_levelAt_27 ?_
        refine J_isub (pc := 28) hX dX4_levelAt_28 ?_
        refine J_aald (pc := 29) hX (N := 4) (t := 0) (fs_4_0 t0 ht0) (by decide) rfl dX4_levelAt_29 (fun h4 => ?_)
        refine J_goto (pc := 30) hX (tgt := 34) (by decide) dX4_levelAt_30 ?_
        exact J_aret (pc := 34) hX (hQ _) dX4_levelAt_34
theorem C_X4_levelAt (Y : jY) (hz0 : Y.zf = false) (t0 : Nat) (ht0 : shC t0 = 5) (p0 : Int32) (I0 : jI) (L0 : jL) (r : Nat) (h : X4_levelAt t0 p0 I0 = some r) : jMet Y yX4_levelAt cX4_levelAt 2 (some (.object "PageLevels$Level")) 1 80 0 0 [jr t0, ji p0] NC shC rfC I0 L0 (some (jr r)) NC shC rfC I0 L0 :=
  jmet_of _ _ h (fun Z r => jQ Y Z 0 0 (some (jr r)) NC shC rfC I0 L0) (fun _ => rfl) (by decide) (Nat.le_of_ble_eq_true rfl) (fun Z hX => W_X4_levelAt hz0 t0 ht0 p0 I0 L0 hX (fun _ => rfl))
theorem T_X4_levelAt (t0 : Nat) (ht0 : shC t0 = 5) (p0 : Int32) (I0 : jI) {r : Nat} (e : X4_levelAt t0 p0 I0 = some r) : r = 0 ∨ shC r = 3 := by
  unfold X4_levelAt at e
  split at e
  · cases e; exact Or.inl rfl
  · split at e
    · cases e; exact Or.inl rfl
    · split at e
      · cases e; exact Or.inl rfl
      · split at e
        · next h => cases e; exact Or.inr (es_4004 _ (fs_4_0 t0 ht0) _ (jin_lt h))
        · cases e
def X4_takeFrom_F1 (t0 : Nat) (p0 : Nat) (k3 : jI → Option (jI)) (g23 : Int32 → jI → Option (jI)) : Int32 → jI → Option (jI) := fun (v21 : Int32) (I22 : jI) =>
if (I22 t0 1) < v21 then (
k3 I22)
else (
(X4_levelAt t0 v21 I22).bind (fun (x25 : Nat) =>
(X4_levelAt p0 v21 I22).bind (fun (x28 : Nat) =>
jlet (fun (I31 : jI) =>
g23 (v21 + (1 : Int32)) I31) (fun (k32 : jI → Option (jI)) =>
if x25 = 0 then (
k32 I22)
else (
if x28 = 0 then (
k32 I22)
else (
(X2_takeFrom x25 x28 I22).bind (fun (I35 : jI) =>
k32 I35)))))))
def X4_takeFrom (t0 : Nat) (p0 : Nat) (I0 : jI) : Option (jI) :=
jlet (jup I0 t0 1 (I0 p0 1)) (fun (I1 : jI) =>
jlet (fun (I2 : jI) =>
if jcp (0 : Int32) (0 : Int32) (64 : Int32) 64 64 then jlet (jrow I2 (rfC t0 2) (va_cpy (I2 (rfC p0 2)) (I2 (rfC t0 2)) ((0 : Int32)).toNatClampNeg ((0 : Int32)).toNatClampNeg ((64 : Int32)).toNatClampNeg)) (fun (I5 : jI) =>
jlet (jup I5 t0 3 (I5 p0 3)) (fun (I6 : jI) =>
jlet (jup I6 t0 4 (I6 p0 4)) (fun (I7 : jI) =>
jlet (jup I7 t0 5 (I7 p0 5)) (fun (I8 : jI) =>
jlet (jup I8 t0 6 (I8 p0 6)) (fun (I9 : jI) =>
jlet (jup I9 t0 7 (I9 p0 7)) (fun (I10 : jI) =>
jlet (jup I10 t0 8 (I10 p0 8)) (fun (I11 : jI) =>
jlet (jup I11 t0 9 (I11 p0 9)) (fun (I12 : jI) =>
jlet (jup I12 t0 10 (I12 p0 10)) (fun (I13 : jI) =>
jlet (jup I13 t0 11 (I13 p0 11)) (fun (I14 : jI) =>
jlet (jup I14 t0 12 (I14 p0 12)) (fun (I15 : jI) =>
jlet (jup I15 t0 13 (I15 p0 13)) (fun (I16 : jI) =>
(X0_takeFrom (rfC t0 14) (rfC p0 14) I16).bind (fun (I17 : jI) =>
(X1_takeFrom (rfC t0 15) (rfC p0 15) I17).bind (fun (I19 : jI) =>
some I19)))))))))))))) else none) (fun (k3 : jI → Option (jI)) =>
jfx (X4_takeFrom_F1 t0 p0 k3) (fun _ _ => none) 1000 (1 : Int32) I1))
set_option maxRecDepth 20000 in
set_option maxHeartbeats 4000000 in
theorem W_X4_takeFrom {Y : jY} {Z : jZ} {Qf : jI → State → Prop} (hz0 : Y.zf = false) (t0 : Nat) (ht0 : shC t0 = 5) (p0 : Nat) (hp0 : shC p0 = 5) (I0 : jI) (L0 : jL) (hX : jOK Y Z RX4 cX4_takeFrom 5 "takeFrom" none 2 102 0 0) (hQ : ∀ r : jI, Qf r = jQ Y Z 0 0 none NC shC rfC r L0) : J Y Z 5 Qf (X4_takeFrom t0 p0 I0) 0 [(0, jr t0), (1, jr p0)] [] 0 0 NC shC rfC I0 L0 := by
  unfold X4_takeFrom
  refine J_aload_n (pc := 0) hX 0 rfl dX4_takeFrom_0 ?_
  refine J_aload_n (pc := 1) hX 1 rfl dX4_takeFrom_1 ?_
  refine g_X4_43 (pc := 2) hX hp0 dX4_takeFrom_2 ?_
  refine p_X4_43 (pc := 5) hX ht0 dX4_takeFrom_5 (fun I1 => ?_)
  refine J_iconst (pc := 8) hX (v := (1 : Int32)) (by decide) dX4_takeFrom_8 ?_
  refine J_istore_n (pc := 9) hX (lo' := [(2, ji (1 : Int32)), (0, jr t0), (1, jr p0)]) (by decide) rfl dX4_takeFrom_9 ?_
  refine J_join (fun (k3 : jI → Option (jI)) => ∀ (I2 : jI), J Y Z 5 Qf (k3 I2) 52 [(0, jr t0), (1, jr p0)] [] 0 0 NC shC rfC I2 L0) ?_ (fun k3 hk3 => ?_)
  · intro I2
    try dsimp only
    refine J_aload_n (pc := 52) hX 1 rfl dX4_takeFrom_52 ?_
    refine g_X4_17 (pc := 53) hX hp0 dX4_takeFrom_53 ?_
    refine J_iconst (pc := 56) hX (v := (0 : Int32)) (by decide) dX4_takeFrom_56 ?_
    refine J_aload_n (pc := 57) hX 0 rfl dX4_takeFrom_57 ?_
    refine g_X4_17 (pc := 58) hX ht0 dX4_takeFrom_58 ?_
    refine J_iconst (pc := 61) hX (v := (0 : Int32)) (by decide) dX4_takeFrom_61 ?_
    refine J_bipush (pc := 62) hX (v := (64 : Int32)) (by decide) dX4_takeFrom_62 ?_
    refine J_copyi (pc := 64) hX hz0 a_X4_54 (n0 := 64) (n1 := 64) ⟨(fs_4_2 p0 hp0), by decide, by decide⟩ ⟨(fs_4_2 t0 ht0), by decide, by decide⟩ ⟨by decide, by decide⟩ (Nat.le_of_ble_eq_true rfl) dX4_takeFrom_64 (fun h4 I5 => ?_)
    refine J_aload_n (pc := 67) hX 0 rfl dX4_takeFrom_67 ?_
    refine J_aload_n (pc := 68) hX 1 rfl dX4_takeFrom_68 ?_
    refine g_X4_21 (pc := 69) hX hp0 dX4_takeFrom_69 ?_
    refine p_X4_21 (pc := 72) hX ht0 dX4_takeFrom_72 (fun I6 => ?_)
    refine J_aload_n (pc := 75) hX 0 rfl dX4_takeFrom_75 ?_
    refine J_aload_n (pc := 76) hX 1 rfl dX4_takeFrom_76 ?_
    refine g_X4_60 (pc := 77) hX hp0 dX4_takeFrom_77 ?_
    refine p_X4_60 (pc := 80) hX ht0 dX4_takeFrom_80 (fun I7 => ?_)
    refine J_aload_n (pc := 83) hX 0 rfl dX4_takeFrom_83 ?_
    refine J_aload_n (pc := 84) hX 1 rfl dX4_takeFrom_84 ?_
    refine g_X4_63 (pc := 85) hX hp0 dX4_takeFrom_85 ?_
    refine p_X4_63 (pc := 88) hX ht0 dX4_takeFrom_88 (fun I8 => ?_)
    refine J_aload_n (pc := 91) hX 0 rfl dX4_takeFrom_91 ?_
    refine J_aload_n (pc := 92) hX 1 rfl dX4_takeFrom_92 ?_
    refine g_X4_66 (pc := 93) hX hp0 dX4_takeFrom_93 ?_
    refine p_X4_66 (pc := 96) hX ht0 dX4_takeFrom_96 (fun I9 => ?_)
    refine J_aload_n (pc := 99) hX 0 rfl dX4_takeFrom_99 ?_
    refine J_aload_n (pc := 100) hX 1 rfl dX4_takeFrom_100 ?_
    refine g_X4_69 (pc := 101) hX hp0 dX4_takeFrom_101 ?_
    refine p_X4_69 (pc := 104) hX ht0 dX4_takeFrom_104 (fun I10 => ?_)
    refine J_aload_n (pc := 107) hX 0 rfl dX4_takeFrom_107 ?_
    refine J_aload_n (pc := 108) hX 1 rfl dX4_takeFrom_108 ?_
    refine g_X4_72 (pc := 109) hX hp0 dX4_takeFrom_109 ?_
    refine p_X4_72 (pc := 112) hX ht0 dX4_takeFrom_112 (fun I11 => ?_)
    refine J_aload_n (pc := 115) hX 0 rfl dX4_takeFrom_115 ?_
    refine J_aload_n (pc := 116) hX 1 rfl dX4_takeFrom_116 ?_
    refine g_X4_25 (pc := 117) hX hp0 dX4_takeFrom_117 ?_
    refine p_X4_25 (pc := 120) hX ht0 dX4_takeFrom_120 (fun I12 => ?_)
    refine J_aload_n (pc := 123) hX 0 rfl dX4_takeFrom_123 ?_
    refine J_aload_n (pc := 124) hX 1 rfl dX4_takeFrom_124 ?_
    refine g_X4_75 (pc := 125) hX hp0 dX4_takeFrom_125 ?_
    refine p_X4_75 (pc := 128) hX ht0 dX4_takeFrom_128 (fun I13 => ?_)
    refine J_aload_n (pc := 131) hX 0 rfl dX4_takeFrom_131 ?_
    refine J_aload_n (pc := 132) hX 1 rfl dX4_takeFrom_132 ?_
    refine g_X4_78 (pc := 133) hX hp0 dX4_takeFrom_133 ?_
    refine p_X4_78 (pc := 136) hX ht0 dX4_takeFrom_136 (fun I14 => ?_)
    refine J_aload_n (pc := 139) hX 0 rfl dX4_takeFrom_139 ?_
    refine J_aload_n (pc := 140) hX 1 rfl dX4_takeFrom_140 ?_
    refine g_X4_81 (pc := 141) hX hp0 dX4_takeFrom_141 ?_
    refine p_X4_81 (pc := 144) hX ht0 dX4_takeFrom_144 (fun I15 => ?_)
    refine J_aload_n (pc := 147) hX 0 rfl dX4_takeFrom_147 ?_
    refine J_aload_n (pc := 148) hX 1 rfl dX4_takeFrom_148 ?_
    refine g_X4_84 (pc := 149) hX hp0 dX4_takeFrom_149 ?_
    refine p_X4_84 (pc := 152) hX ht0 dX4_takeFrom_152 (fun I16 => ?_)
    refine J_aload_n (pc := 155) hX 0 rfl dX4_takeFrom_155 ?_
    refine g_X4_31 (pc := 156) hX ht0 dX4_takeFrom_156 ?_
    refine J_aload_n (pc := 159) hX 1 rfl dX4_takeFrom_159 ?_
    refine g_X4_31 (pc := 160) hX hp0 dX4_takeFrom_160 ?_
    refine J_call1 (fun I17 e18 => ?_)
    refine jrun_v (pc := 163) (jRunV hX s_X4_87 (ci := 0) (T := TX0) (N := 2) (As := [jr (rfC p0 14)]) (rest := []) rfl (by decide) (C_X0_takeFrom Y hz0 (rfC t0 14) (fs_4_14 t0 ht0) (rfC p0 14) (fs_4_14 p0 hp0) I16 L0 I17 e18) (fs_4_14 t0 ht0) rfl rfl ⟨by decide, by decide⟩ ⟨Nat.le_of_ble_eq_true rfl, Nat.le_of_ble_eq_true rfl⟩ (Nat.le_of_ble_eq_true rfl) dX4_takeFrom_163) ?_
    refine J_aload_n (pc := 166) hX 0 rfl dX4_takeFrom_166 ?_
    refine g_X4_38 (pc := 167) hX ht0 dX4_takeFrom_167 ?_
    refine J_aload_n (pc := 170) hX 1 rfl dX4_takeFrom_170 ?_
    refine g_X4_38 (pc := 171) hX hp0 dX4_takeFrom_171 ?_
    refine J_call1 (fun I19 e20 => ?_)
    refine jrun_v (pc := 174) (jRunV hX s_X4_90 (ci := 1) (T := TX1) (N := 5) (As := [jr (rfC p0 15)]) (rest := []) rfl (by decide) (C_X1_takeFrom Y hz0 (rfC t0 15) (fs_4_15 t0 ht0) (rfC p0 15) (fs_4_15 p0 hp0) I17 L0 I19 e20) (fs_4_15 t0 ht0) rfl rfl ⟨by decide, by decide⟩ ⟨Nat.le_of_ble_eq_true rfl, Nat.le_of_ble_eq_true rfl⟩ (Nat.le_of_ble_eq_true rfl) dX4_takeFrom_174) ?_
    exact J_vret (pc := 177) hX (hQ _) dX4_takeFrom_177
  have lhg23 : ∀ mq : Nat, ∀ (v21 : Int32) (I22 : jI), J Y Z 5 Qf (jfx (X4_takeFrom_F1 t0 p0 k3) (fun _ _ => none) mq v21 I22) 10 [(0, jr t0), (1, jr p0), (2, ji v21)] [] 0 0 NC shC rfC I22 L0 := by
    intro mq
    refine jfx_J (fun (_ : Nat) (g23 : Int32 → jI → Option (jI)) => ∀ (v21 : Int32) (I22 : jI), J Y Z 5 Qf (g23 v21 I22) 10 [(0, jr t0), (1, jr p0), (2, ji v21)] [] 0 0 NC shC rfC I22 L0) ?_ (fun _ g23 hg23 => ?_) mq
    · intro v21 I22
      exact J_none
    intro v21 I22
    unfold X4_takeFrom_F1
    try dsimp only
    refine J_iload_n (pc := 10) hX 2 rfl dX4_takeFrom_10 ?_
    refine J_aload_n (pc := 11) hX 0 rfl dX4_takeFrom_11 ?_
    refine g_X4_43 (pc := 12) hX ht0 dX4_takeFrom_12 ?_
    refine J_icmp_gt (pc := 15) hX (tgt := 52) (by decide) dX4_takeFrom_15 (fun h24 => ?_) (fun h24 => ?_)
    · refine J_sub [0, 1] rfl ?_
      exact hk3 I22
    · refine J_aload_n (pc := 18) hX 0 rfl dX4_takeFrom_18 ?_
      refine J_iload_n (pc := 19) hX 2 rfl dX4_takeFrom_19 ?_
      refine J_call1 (fun x25 e26 => ?_)
      refine jrun_r (pc := 20) (jRunV hX s_X4_46 (ci := 4) (T := TX4) (N := 18) (As := [ji v21]) (rest := []) rfl (by decide) (C_X4_levelAt Y hz0 t0 ht0 v21 I22 L0 x25 e26) ht0 rfl rfl ⟨by decide, by decide⟩ ⟨Nat.le_of_ble_eq_true rfl, Nat.le_of_ble_eq_true rfl⟩ (Nat.le_of_ble_eq_true rfl) dX4_takeFrom_20) ?_
      have t27 := T_X4_levelAt t0 ht0 v21 I22 e26
      refine J_astore_n (pc := 23) hX (lo' := [(3, jr x25), (0, jr t0), (1, jr p0), (2, ji v21)]) (by decide) rfl dX4_takeFrom_23 ?_
      refine J_aload_n (pc := 24) hX 2 rfl dX4_takeFrom_24 ?_
      refine J_iload_n (pc := 25) hX 3 rfl dX4_takeFrom_25 ?_
      refine J_call1 (fun x28 e29 => ?_)
      refine jrun_r (pc := 26) (jRunV hX s_X4_46 (ci := 4) (T := TX4) (N := 18) (As := [ji v21]) (rest := []) rfl (by decide) (C_X4_levelAt Y hz0 p0 hp0 v21 I22 L0 x28 e29) hp0 rfl rfl ⟨by decide, by decide⟩ ⟨Nat.le_of_ble_eq_true rfl, Nat.le_of_ble_eq_true rfl⟩ (Nat.le_of_ble_eq_true rfl) dX4_takeFrom_26) ?_
      have t30 := T_X4_levelAt p0 hp0 v21 I22 e29
      refine J_astore (pc := 29) hX (lo' := [(4, jr x28), (3, jr x25), (0, jr t0), (1, jr p0), (2, ji v21)]) (by decide) rfl dX4_takeFrom_29 ?_
      refine J_aload_n (pc := 31) hX 1 rfl dX4_takeFrom_31 ?_
      refine J_join (fun (k32 : jI → Option (jI)) => ∀ (I31 : jI), J Y Z 5 Qf (k32 I31) 46 [(0, jr t0), (1, jr p0), (2, ji v21)] [] 0 0 NC shC rfC I31 L0) ?_ (fun k32 hk32 => ?_)
      · intro I31
        try dsimp only
        refine J_iinc (pc := 46) hX (v := (v21 + (1 : Int32))) (lo' := [(2, ji (v21 + (1 : Int32))), (0, jr t0), (1, jr p0)]) 2 rfl (by rfl) (by decide) rfl dX4_takeFrom_46 ?_
        refine J_goto (pc := 49) hX (tgt := 10) (by decide) dX4_takeFrom_49 ?_
        refine J_sub [1, 2, 0] rfl ?_
        exact hg23 (v21 + (1 : Int32)) I31
      refine J_ifnull (pc := 32) hX (tgt := 46) (by decide) dX4_takeFrom_32 (fun h33 => ?_) (fun h33 => ?_)
      · refine J_sub [2, 3, 4] rfl ?_
        exact hk32 I22
      · refine J_aload (pc := 35) hX 0 rfl dX4_takeFrom_35 ?_
        refine J_ifnull (pc := 37) hX (tgt := 46) (by decide) dX4_takeFrom_37 (fun h34 => ?_) (fun h34 => ?_)
        · refine J_sub [2, 3, 4] rfl ?_
          exact hk32 I22
        · refine J_aload_n (pc := 40) hX 1 rfl dX4_takeFrom_40 ?_
          refine J_aload (pc := 41) hX 0 rfl dX4_takeFrom_41 ?_
          refine J_call1 (fun I35 e36 => ?_)
          refine jrun_v (pc := 43) (jRunV hX s_X4_50 (ci := 2) (T := TX2) (N := 19) (As := [jr x28]) (rest := []) rfl (by decide) (C_X2_takeFrom Y hz0 x25 (t27.resolve_left h33) x28 (t30.resolve_left h34) I22 L0 I35 e36) (t27.resolve_left h33) rfl rfl ⟨by decide, by decide⟩ ⟨Nat.le_of_ble_eq_true rfl, Nat.le_of_ble_eq_true rfl⟩ (Nat.le_of_ble_eq_true rfl) dX4_takeFrom_43) ?_
          refine J_sub [2, 3, 4] rfl ?_
          exact hk32 I35
  refine J_sub [1, 2, 0] rfl ?_
  exact lhg23 1000 (1 : Int32) I1
theorem C_X4_takeFrom (Y : jY) (hz0 : Y.zf = false) (t0 : Nat) (ht0 : shC t0 = 5) (p0 : Nat) (hp0 : shC p0 = 5) (I0 : jI) (L0 : jL) (I1 : jI) (h : X4_takeFrom t0 p0 I0 = some I1) : jMet Y yX4_takeFrom cX4_takeFrom 5 none 2 102 0 0 [jr t0, jr p0] NC shC rfC I0 L0 none NC shC rfC I1 L0 :=
  jmet_of _ _ h (fun Z r => jQ Y Z 0 0 none NC shC rfC r L0) (fun _ => rfl) (by decide) (Nat.le_of_ble_eq_true rfl) (fun Z hX => W_X4_takeFrom hz0 t0 ht0 p0 hp0 I0 L0 hX (fun _ => rfl))
def X4_inMemory (t0 : Nat) (p0 : Int32) (I0 : jI) : Option (Int32) :=
if p0 < 0 then (
some (0 : Int32))
else (
if (64 : Int32) ≤ p0 then (
some (0 : Int32))
else (
if jin p0 64 then (
some (I0 (rfC t0 2) (p0).toNatClampNeg)) else none))
set_option maxRecDepth 20000 in
set_option maxHeartbeats 4000000 in
theorem W_X4_inMemory {Y : jY} {Z : jZ} {Qf : Int32 → State → Prop} (hz0 : Y.zf = false) (t0 : Nat) (ht0 : shC t0 = 5) (p0 : Int32) (I0 : jI) (L0 : jL) (hX : jOK Y Z RX4 cX4_inMemory 2 "inMemory" (some .int) 1 80 0 0) (hQ : ∀ r : Int32, Qf r = jQ Y Z 0 0 (some (ji r)) NC shC rfC I0 L0) : J Y Z 2 Qf (X4_inMemory t0 p0 I0) 0 [(0, jr t0), (1, ji p0)] [] 0 0 NC shC rfC I0 L0 := by
  unfold X4_inMemory
  refine J_iload_n (pc := 0) hX 1 rfl dX4_inMemory_0 ?_
  refine J_if_lt (pc := 1) hX (tgt := 22) (by decide) dX4_inMemory_1 (fun h1 => ?_) (fun h1 => ?_)
  · refine J_iconst (pc := 22) hX (v := (0 : Int32)) (by decide) dX4_inMemory_22 ?_
    exact J_iret (pc := 23) hX (hQ _) dX4_inMemory_23
  · refine J_iload_n (pc := 4) hX 1 rfl dX4_inMemory_4 ?_
    refine J_aload_n (pc := 5) hX 0 rfl dX4_inMemory_5 ?_
    refine g_X4_17 (pc := 6) hX ht0 dX4_inMemory_6 ?_
    refine J_alen (pc := 9) hX (v := (64 : Int32)) (fs_4_2 t0 ht0) (by decide) dX4_inMemory_9 ?_
    refine J_icmp_ge (pc := 10) hX (tgt := 22) (by decide) dX4_inMemory_10 (fun h2 => ?_) (fun h2 => ?_)
    · refine J_iconst (pc := 22) hX (v := (0 : Int32)) (by decide) dX4_inMemory_22 ?_
      exact J_iret (pc := 23) hX (hQ _) dX4_inMemory_23
    · refine J_aload_n (pc := 13) hX 0 rfl dX4_inMemory_13 ?_
      refine g_X4_17 (pc := 14) hX ht0 dX4_inMemory_14 ?_
      refine J_iload_n (pc := 17) hX 1 rfl dX4_inMemory_17 ?_
      refine J_iald (pc := 18) hX (N := 64) (fs_4_2 t0 ht0) (by decide) dX4_inMemory_18 (fun h3 => ?_)
      refine J_goto (pc := 19) hX (tgt := 23) (by decide) dX4_inMemory_19 ?_
      exact J_iret (pc := 23) hX (hQ _) dX4_inMemory_23
theorem C_X4_inMemory (Y : jY) (hz0 : Y.zf = false) (t0 : Nat) (ht0 : shC t0 = 5) (p0 : Int32) (I0 : jI) (L0 : jL) (r : Int32) (h : X4_inMemory t0 p0 I0 = some r) : jMet Y yX4_inMemory cX4_inMemory 2 (some .int) 1 80 0 0 [jr t0, ji p0] NC shC rfC I0 L0 (some (ji r)) NC shC rfC I0 L0 :=
  jmet_of _ _ h (fun Z r => jQ Y Z 0 0 (some (ji r)) NC shC rfC I0 L0) (fun _ => rfl) (by decide) (Nat.le_of_ble_eq_true rfl) (fun Z hX => W_X4_inMemory hz0 t0 ht0 p0 I0 L0 hX (fun _ => rfl))
def X4_putInMemory (t0 : Nat) (p0 : Int32) (p1 : Int32) (I0 : jI) : Option (jI) :=
if p0 < 0 then (
some I0)
else (
if (64 : Int32) ≤ p0 then (
some I0)
else (
if jin p0 64 then jlet (jup I0 (rfC t0 2) (p0).toNatClampNeg p1) (fun (I4 : jI) =>
jlet (jup I4 t0 11 ((I4 t0 11) + (1 : Int32))) (fun (I5 : jI) =>
some I5)) else none))
set_option maxRecDepth 20000 in
set_option maxHeartbeats 4000000 in
theorem W_X4_putInMemory {Y : jY} {Z : jZ} {Qf : jI → State → Prop} (hz0 : Y.zf = false) (t0 : Nat) (ht0 : shC t0 = 5) (p0 : Int32) (p1 : Int32) (I0 : jI) (L0 : jL) (hX : jOK Y Z RX4 cX4_putInMemory 3 "putInMemory" none 1 80 0 0) (hQ : ∀ r : jI, Qf r = jQ Y Z 0 0 none NC shC rfC r L0) : J Y Z 3 Qf (X4_putInMemory t0 p0 p1 I0) 0 [(0, jr t0), (1, ji p0), (2, ji p1)] [] 0 0 NC shC rfC I0 L0 := by
  unfold X4_putInMemory
  refine J_iload_n (pc := 0) hX 1 rfl dX4_putInMemory_0 ?_
  refine J_if_lt (pc := 1) hX (tgt := 30) (by decide) dX4_putInMemory_1 (fun h1 => ?_) (fun h1 => ?_)
  · exact J_vret (pc := 30) hX (hQ _) dX4_putInMemory_30
  · refine J_iload_n (pc := 4) hX 1 rfl dX4_putInMemory_4 ?_
    refine J_aload_n (pc := 5) hX 0 rfl dX4_putInMemory_5 ?_
    refine g_X4_17 (pc := 6) hX ht0 dX4_putInMemory_6 ?_
    refine J_alen (pc := 9) hX (v := (64 : Int32)) (fs_4_2 t0 ht0) (by decide) dX4_putInMemory_9 ?_
    refine J_icmp_ge (pc := 10) hX (tgt := 30) (by decide) dX4_putInMemory_10 (fun h2 => ?_) (fun h2 => ?_)
    · exact J_vret (pc := 30) hX (hQ _) dX4_putInMemory_30
    · refine J_aload_n (pc := 13) hX 0 rfl dX4_putInMemory_13 ?_
      refine g_X4_17 (pc := 14) hX ht0 dX4_putInMemory_14 ?_
      refine J_iload_n (pc := 17) hX 1 rfl dX4_putInMemory_17 ?_
      refine J_iload_n (pc := 18) hX 2 rfl dX4_putInMemory_18 ?_
      refine J_iast (pc := 19) hX (N := 64) (fs_4_2 t0 ht0) (by decide) dX4_putInMemory_19 (fun h3 I4 => ?_)
      refine J_aload_n (pc := 20) hX 0 rfl dX4_putInMemory_20 ?_
      refine J_dup (pc := 21) hX rfl dX4_putInMemory_21 ?_
      refine g_X4_78 (pc := 22) hX ht0 dX4_putInMemory_22 ?_
      refine J_iconst (pc := 25) hX (v := (1 : Int32)) (by decide) dX4_putInMemory_25 ?_
      refine J_iadd (pc := 26) hX dX4_putInMemory_26 ?_
      refine p_X4_78 (pc := 27) hX ht0 dX4_putInMemory_27 (fun I5 => ?_)
      exact J_vret (pc := 30) hX (hQ _) dX4_putInMemory_30
theorem C_X4_putInMemory (Y : jY) (hz0 : Y.zf = false) (t0 : Nat) (ht0 : shC t0 = 5) (p0 : Int32) (p1 : Int32) (I0 : jI) (L0 : jL) (I1 : jI) (h : X4_putInMemory t0 p0 p1 I0 = some I1) : jMet Y yX4_putInMemory cX4_putInMemory 3 none 1 80 0 0 [jr t0, ji p0, ji p1] NC shC rfC I0 L0 none NC shC rfC I1 L0 :=
  jmet_of _ _ h (fun Z r => jQ Y Z 0 0 none NC shC rfC r L0) (fun _ => rfl) (by decide) (Nat.le_of_ble_eq_true rfl) (fun Z hX => W_X4_putInMemory hz0 t0 ht0 p0 p1 I0 L0 hX (fun _ => rfl))
def X4_lookFor_F1 (t0 : Nat) (p0 : Int32) (k3 : Int32 → jI → Option (Int32 × jI)) (g11 : Int32 → Int32 → jI → Option (Int32 × jI)) : Int32 → Int32 → jI → Option (Int32 × jI) := fun (v8 : Int32) (v9 : Int32) (I10 : jI) =>
if (I10 t0 1) < v9 then (
k3 v8 I10)
else (
(X4_levelAt t0 v9 I10).bind (fun (x13 : Nat) =>
jlet (fun (v16 : Int32) (I17 : jI) =>
g11 v16 (v9 + (1 : Int32)) I17) (fun (k18 : Int32 → jI → Option (Int32 × jI)) =>
if x13 = 0 then (
k18 v8 I10)
else (
jlet ((v8 + (I10 x13 1))) (fun (y20 : Int32) =>
(X2_slotOf x13 p0 I10).bind (fun (y21 : Int32) =>
if y21 = (-1 : Int32) then (
jlet (jup I10 x13 6 ((I10 x13 6) + (1 : Int32))) (fun (I24 : jI) =>
k18 y20 I24))
else (
jlet (jup I10 x13 5 ((I10 x13 5) + (1 : Int32))) (fun (I25 : jI) =>
(X2_touch x13 y21 (I25 t0 7) I25).bind (fun (I26 : jI) =>
jlet (jup I26 t0 16 v9) (fun (I28 : jI) =>
(X2_valueIn x13 y21 I28).bind (fun (y29 : Int32) =>
jlet (jup I28 t0 17 y29) (fun (I31 : jI) =>
some (y20, I31)))))))))))))
def X4_lookFor (t0 : Nat) (p0 : Int32) (I0 : jI) : Option (Int32 × jI) :=
jlet (fun (v1 : Int32) (I2 : jI) =>
jlet (jup I2 t0 16 (0 : Int32)) (fun (I4 : jI) =>
(X4_inMemory t0 p0 I4).bind (fun (y5 : Int32) =>
jlet (jup I4 t0 17 y5) (fun (I7 : jI) =>
some ((v1 + (I7 t0 3)), I7))))) (fun (k3 : Int32 → jI → Option (Int32 × jI)) =>
jfx (X4_lookFor_F1 t0 p0 k3) (fun _ _ _ => none) 1000 (0 : Int32) (1 : Int32) I0)
set_option maxRecDepth 20000 in
set_option maxHeartbeats 4000000 in
theorem W_X4_lookFor {Y : jY} {Z : jZ} {Qf : Int32 × jI → State → Prop} (hz0 : Y.zf = false) (t0 : Nat) (ht0 : shC t0 = 5) (p0 : Int32) (I0 : jI) (L0 : jL) (hX : jOK Y Z RX4 cX4_lookFor 6 "lookFor" (some .int) 3 122 0 0) (hQ : ∀ r : Int32 × jI, Qf r = jQ Y Z 0 0 (some (ji r.1)) NC shC rfC r.2 L0) : J Y Z 6 Qf (X4_lookFor t0 p0 I0) 0 [(0, jr t0), (1, ji p0)] [] 0 0 NC shC rfC I0 L0 := by
  unfold X4_lookFor
  refine J_iconst (pc := 0) hX (v := (0 : Int32)) (by decide) dX4_lookFor_0 ?_
  refine J_istore_n (pc := 1) hX (lo' := [(2, ji (0 : Int32)), (0, jr t0), (1, ji p0)]) (by decide) rfl dX4_lookFor_1 ?_
  refine J_iconst (pc := 2) hX (v := (1 : Int32)) (by decide) dX4_lookFor_2 ?_
  refine J_istore_n (pc := 3) hX (lo' := [(3, ji (1 : Int32)), (2, ji (0 : Int32)), (0, jr t0), (1, ji p0)]) (by decide) rfl dX4_lookFor_3 ?_
  refine J_join (fun (k3 : Int32 → jI → Option (Int32 × jI)) => ∀ (v1 : Int32) (I2 : jI), J Y Z 6 Qf (k3 v1 I2) 103 [(0, jr t0), (1, ji p0), (2, ji v1)] [] 0 0 NC shC rfC I2 L0) ?_ (fun k3 hk3 => ?_)
  · intro v1 I2
    try dsimp only
    refine J_aload_n (pc := 103) hX 0 rfl dX4_lookFor_103 ?_
    refine J_iconst (pc := 104) hX (v := (0 : Int32)) (by decide) dX4_lookFor_104 ?_
    refine p_X4_116 (pc := 105) hX ht0 dX4_lookFor_105 (fun I4 => ?_)
    refine J_aload_n (pc := 108) hX 0 rfl dX4_lookFor_108 ?_
    refine J_aload_n (pc := 109) hX 0 rfl dX4_lookFor_109 ?_
    refine J_iload_n (pc := 110) hX 1 rfl dX4_lookFor_110 ?_
    refine J_call1 (fun y5 e6 => ?_)
    refine jrun_i (pc := 111) (jRunV hX s_X4_125 (ci := 4) (T := TX4) (N := 18) (As := [ji p0]) (rest := [jr t0]) rfl (by decide) (C_X4_inMemory Y hz0 t0 ht0 p0 I4 L0 y5 e6) ht0 rfl rfl ⟨by decide, by decide⟩ ⟨Nat.le_of_ble_eq_true rfl, Nat.le_of_ble_eq_true rfl⟩ (Nat.le_of_ble_eq_true rfl) dX4_lookFor_111) ?_
    refine p_X4_105 (pc := 114) hX ht0 dX4_lookFor_114 (fun I7 => ?_)
    refine J_iload_n (pc := 117) hX 2 rfl dX4_lookFor_117 ?_
    refine J_aload_n (pc := 118) hX 0 rfl dX4_lookFor_118 ?_
    refine g_X4_21 (pc := 119) hX ht0 dX4_lookFor_119 ?_
    refine J_iadd (pc := 122) hX dX4_lookFor_122 ?_
    exact J_iret (pc := 123) hX (hQ _) dX4_lookFor_123
  have lhg11 : ∀ mq : Nat, ∀ (v8 : Int32) (v9 : Int32) (I10 : jI), J Y Z 6 Qf (jfx (X4_lookFor_F1 t0 p0 k3) (fun _ _ _ => none) mq v8 v9 I10) 4 [(0, jr t0), (1, ji p0), (2, ji v8), (3, ji v9)] [] 0 0 NC shC rfC I10 L0 := by
    intro mq
    refine jfx_J (fun (_ : Nat) (g11 : Int32 → Int32 → jI → Option (Int32 × jI)) => ∀ (v8 : Int32) (v9 : Int32) (I10 : jI), J Y Z 6 Qf (g11 v8 v9 I10) 4 [(0, jr t0), (1, ji p0), (2, ji v8), (3, ji v9)] [] 0 0 NC shC rfC I10 L0) ?_ (fun _ g11 hg11 => ?_) mq
    · intro v8 v9 I10
      exact J_none
    intro v8 v9 I10
    unfold X4_lookFor_F1
    try dsimp only
    refine J_iload_n (pc := 4) hX 3 rfl dX4_lookFor_4 ?_
    refine J_aload_n (pc := 5) hX 0 rfl dX4_lookFor_5 ?_
    refine g_X4_43 (pc := 6) hX ht0 dX4_lookFor_6 ?_
    refine J_icmp_gt (pc := 9) hX (tgt := 103) (by decide) dX4_lookFor_9 (fun h12 => ?_) (fun h12 => ?_)
    · refine J_sub [0, 1, 2] rfl ?_
      exact hk3 v8 I10
    · refine J_aload_n (pc := 12) hX 0 rfl dX4_lookFor_12 ?_
      refine J_iload_n (pc := 13) hX 3 rfl dX4_lookFor_13 ?_
      refine J_call1 (fun x13 e14 => ?_)
      refine jrun_r (pc := 14) (jRunV hX s_X4_46 (ci := 4) (T := TX4) (N := 18) (As := [ji v9]) (rest := []) rfl (by decide) (C_X4_levelAt Y hz0 t0 ht0 v9 I10 L0 x13 e14) ht0 rfl rfl ⟨by decide, by decide⟩ ⟨Nat.le_of_ble_eq_true rfl, Nat.le_of_ble_eq_true rfl⟩ (Nat.le_of_ble_eq_true rfl) dX4_lookFor_14) ?_
      have t15 := T_X4_levelAt t0 ht0 v9 I10 e14
      refine J_astore (pc := 17) hX (lo' := [(4, jr x13), (0, jr t0), (1, ji p0), (2, ji v8), (3, ji v9)]) (by decide) rfl dX4_lookFor_17 ?_
      refine J_aload (pc := 19) hX 0 rfl dX4_lookFor_19 ?_
      refine J_join (fun (k18 : Int32 → jI → Option (Int32 × jI)) => ∀ (v16 : Int32) (I17 : jI), J Y Z 6 Qf (k18 v16 I17) 97 [(0, jr t0), (1, ji p0), (2, ji v16), (3, ji v9)] [] 0 0 NC shC rfC I17 L0) ?_ (fun k18 hk18 => ?_)
      · intro v16 I17
        try dsimp only
        refine J_iinc (pc := 97) hX (v := (v9 + (1 : Int32))) (lo' := [(3, ji (v9 + (1 : Int32))), (0, jr t0), (1, ji p0), (2, ji v16)]) 3 rfl (by rfl) (by decide) rfl dX4_lookFor_97 ?_
        refine J_goto (pc := 100) hX (tgt := 4) (by decide) dX4_lookFor_100 ?_
        refine J_sub [1, 2, 3, 0] rfl ?_
        exact hg11 v16 (v9 + (1 : Int32)) I17
      refine J_ifnull (pc := 21) hX (tgt := 97) (by decide) dX4_lookFor_21 (fun h19 => ?_) (fun h19 => ?_)
      · refine J_sub [1, 2, 3, 4] rfl ?_
        exact hk18 v8 I10
      · refine J_iload_n (pc := 24) hX 3 rfl dX4_lookFor_24 ?_
        refine J_aload (pc := 25) hX 0 rfl dX4_lookFor_25 ?_
        refine g_X4_132 (pc := 27) hX (t15.resolve_left h19) dX4_lookFor_27 ?_
        refine J_iadd (pc := 30) hX dX4_lookFor_30 ?_
        refine J_leti (fun y20 => ?_)
        refine J_istore_n (pc := 31) hX (lo' := [(2, ji y20), (4, jr x13), (0, jr t0), (1, ji p0), (3, ji v9)]) (by decide) rfl dX4_lookFor_31 ?_
        refine J_aload (pc := 32) hX 1 rfl dX4_lookFor_32 ?_
        refine J_iload_n (pc := 34) hX 3 rfl dX4_lookFor_34 ?_
        refine J_call1 (fun y21 e22 => ?_)
        refine jrun_i (pc := 35) (jRunV hX s_X4_135 (ci := 2) (T := TX2) (N := 19) (As := [ji p0]) (rest := []) rfl (by decide) (C_X2_slotOf Y hz0 x13 (t15.resolve_left h19) p0 I10 L0 y21 e22) (t15.resolve_left h19) rfl rfl ⟨by decide, by decide⟩ ⟨Nat.le_of_ble_eq_true rfl, Nat.le_of_ble_eq_true rfl⟩ (Nat.le_of_ble_eq_true rfl) dX4_lookFor_35) ?_
        refine J_istore (pc := 38) hX (lo' := [(5, ji y21), (2, ji y20), (4, jr x13), (0, jr t0), (1, ji p0), (3, ji v9)]) (by decide) rfl dX4_lookFor_38 ?_
        refine J_iload (pc := 40) hX 0 rfl dX4_lookFor_40 ?_
        refine J_iconst (pc := 42) hX (v := (-1 : Int32)) (by decide) dX4_lookFor_42 ?_
        refine J_icmp_eq (pc := 43) hX (tgt := 86) (by decide) dX4_lookFor_43 (fun h23 => ?_) (fun h23 => ?_)
        · refine J_aload (pc := 86) hX 2 rfl dX4_lookFor_86 ?_
          refine J_dup (pc := 88) hX rfl dX4_lookFor_88 ?_
          refine g_X4_147 (pc := 89) hX (t15.resolve_left h19) dX4_lookFor_89 ?_
          refine J_iconst (pc := 92) hX (v := (1 : Int32)) (by decide) dX4_lookFor_92 ?_
          refine J_iadd (pc := 93) hX dX4_lookFor_93 ?_
          refine p_X4_147 (pc := 94) hX (t15.resolve_left h19) dX4_lookFor_94 (fun I24 => ?_)
          refine J_sub [3, 4, 1, 5] rfl ?_
          exact hk18 y20 I24
        · refine J_aload (pc := 46) hX 2 rfl dX4_lookFor_46 ?_
          refine J_dup (pc := 48) hX rfl dX4_lookFor_48 ?_
          refine g_X4_138 (pc := 49) hX (t15.resolve_left h19) dX4_lookFor_49 ?_
          refine J_iconst (pc := 52) hX (v := (1 : Int32)) (by decide) dX4_lookFor_52 ?_
          refine J_iadd (pc := 53) hX dX4_lookFor_53 ?_
          refine p_X4_138 (pc := 54) hX (t15.resolve_left h19) dX4_lookFor_54 (fun I25 => ?_)
          refine J_aload (pc := 57) hX 2 rfl dX4_lookFor_57 ?_
          refine J_iload (pc := 59) hX 0 rfl dX4_lookFor_59 ?_
          refine J_aload_n (pc := 61) hX 3 rfl dX4_lookFor_61 ?_
          refine g_X4_69 (pc := 62) hX ht0 dX4_lookFor_62 ?_
          refine J_call1 (fun I26 e27 => ?_)
          refine jrun_v (pc := 65) (jRunV hX s_X4_141 (ci := 2) (T := TX2) (N := 19) (As := [ji y21, ji (I25 t0 7)]) (rest := []) rfl (by decide) (C_X2_touch Y hz0 x13 (t15.resolve_left h19) y21 (I25 t0 7) I25 L0 I26 e27) (t15.resolve_left h19) rfl rfl ⟨by decide, by decide⟩ ⟨Nat.le_of_ble_eq_true rfl, Nat.le_of_ble_eq_true rfl⟩ (Nat.le_of_ble_eq_true rfl) dX4_lookFor_65) ?_
          refine J_aload_n (pc := 68) hX 3 rfl dX4_lookFor_68 ?_
          refine J_iload_n (pc := 69) hX 5 rfl dX4_lookFor_69 ?_
          refine p_X4_116 (pc := 70) hX ht0 dX4_lookFor_70 (fun I28 => ?_)
          refine J_aload_n (pc := 73) hX 3 rfl dX4_lookFor_73 ?_
          refine J_aload (pc := 74) hX 2 rfl dX4_lookFor_74 ?_
          refine J_iload (pc := 76) hX 0 rfl dX4_lookFor_76 ?_
          refine J_call1 (fun y29 e30 => ?_)
          refine jrun_i (pc := 78) (jRunV hX s_X4_144 (ci := 2) (T := TX2) (N := 19) (As := [ji y21]) (rest := [jr t0]) rfl (by decide) (C_X2_valueIn Y hz0 x13 (t15.resolve_left h19) y21 I28 L0 y29 e30) (t15.resolve_left h19) rfl rfl ⟨by decide, by decide⟩ ⟨Nat.le_of_ble_eq_true rfl, Nat.le_of_ble_eq_true rfl⟩ (Nat.le_of_ble_eq_true rfl) dX4_lookFor_78) ?_
          refine p_X4_105 (pc := 81) hX ht0 dX4_lookFor_81 (fun I31 => ?_)
          refine J_iload_n (pc := 84) hX 1 rfl dX4_lookFor_84 ?_
          exact J_iret (pc := 85) hX (hQ _) dX4_lookFor_85
  refine J_sub [2, 3, 1, 0] rfl ?_
  exact lhg11 1000 (0 : Int32) (1 : Int32) I0
theorem C_X4_lookFor (Y : jY) (hz0 : Y.zf = false) (t0 : Nat) (ht0 : shC t0 = 5) (p0 : Int32) (I0 : jI) (L0 : jL) (r : Int32) (I1 : jI) (h : X4_lookFor t0 p0 I0 = some (r, I1)) : jMet Y yX4_lookFor cX4_lookFor 6 (some .int) 3 122 0 0 [jr t0, ji p0] NC shC rfC I0 L0 (some (ji r)) NC shC rfC I1 L0 :=
  jmet_of _ _ h (fun Z r => jQ Y Z 0 0 (some (ji r.1)) NC shC rfC r.2 L0) (fun _ => rfl) (by decide) (Nat.le_of_ble_eq_true rfl) (fun Z hX => W_X4_lookFor hz0 t0 ht0 p0 I0 L0 hX (fun _ => rfl))
def X4_leaveToComeNear (t0 : Nat) (p0 : Int32) (I0 : jI) : Option (Int32 × jI) :=
(X4_levelAt t0 (I0 t0 16) I0).bind (fun (x1 : Nat) =>
if (I0 t0 4) = (2 : Int32) then (
if (I0 t0 16) = (1 : Int32) then (
some ((0 : Int32), I0))
else (
if x1 = 0 then (
some ((0 : Int32), I0))
else (
(X2_slotOf x1 p0 I0).bind (fun (y7 : Int32) =>
(X2_isDirty x1 y7 I0).bind (fun (y9 : Int32) =>
jb2 (X2_release x1 y7 I0) (fun (y11 : Int32) (I12 : jI) =>
if y9 = 0 ∨ y9 = 1 then some (y9, I12) else none))))))
else (
some ((0 : Int32), I0)))
set_option maxRecDepth 20000 in
set_option maxHeartbeats 4000000 in
theorem W_X4_leaveToComeNear {Y : jY} {Z : jZ} {Qf : Int32 × jI → State → Prop} (hz0 : Y.zf = false) (t0 : Nat) (ht0 : shC t0 = 5) (p0 : Int32) (I0 : jI) (L0 : jL) (hX : jOK Y Z RX4 cX4_leaveToComeNear 5 "leaveToComeNear" (some .boolean) 2 102 0 0) (hQ : ∀ r : Int32 × jI, Qf r = jQ Y Z 0 0 (some (ji r.1)) NC shC rfC r.2 L0) : J Y Z 5 Qf (X4_leaveToComeNear t0 p0 I0) 0 [(0, jr t0), (1, ji p0)] [] 0 0 NC shC rfC I0 L0 := by
  unfold X4_leaveToComeNear
  refine J_aload_n (pc := 0) hX 0 rfl dX4_leaveToComeNear_0 ?_
  refine J_aload_n (pc := 1) hX 0 rfl dX4_leaveToComeNear_1 ?_
  refine g_X4_116 (pc := 2) hX ht0 dX4_leaveToComeNear_2 ?_
  refine J_call1 (fun x1 e2 => ?_)
  refine jrun_r (pc := 5) (jRunV hX s_X4_46 (ci := 4) (T := TX4) (N := 18) (As := [ji (I0 t0 16)]) (rest := []) rfl (by decide) (C_X4_levelAt Y hz0 t0 ht0 (I0 t0 16) I0 L0 x1 e2) ht0 rfl rfl ⟨by decide, by decide⟩ ⟨Nat.le_of_ble_eq_true rfl, Nat.le_of_ble_eq_true rfl⟩ (Nat.le_of_ble_eq_true rfl) dX4_leaveToComeNear_5) ?_
  have t3 := T_X4_levelAt t0 ht0 (I0 t0 16) I0 e2
  refine J_astore_n (pc := 8) hX (lo' := [(2, jr x1), (0, jr t0), (1, ji p0)]) (by decide) rfl dX4_leaveToComeNear_8 ?_
  refine J_aload_n (pc := 9) hX 1 rfl dX4_leaveToComeNear_9 ?_
  refine g_X4_60 (pc := 10) hX ht0 dX4_leaveToComeNear_10 ?_
  refine J_iconst (pc := 13) hX (v := (2 : Int32)) (by decide) dX4_leaveToComeNear_13 ?_
  refine J_icmp_ne (pc := 14) hX (tgt := 29) (by decide) dX4_leaveToComeNear_14 (fun h4 => ?_) (fun h4 => ?_)
  · refine J_iconst (pc := 29) hX (v := (0 : Int32)) (by decide) dX4_leaveToComeNear_29 ?_
    exact J_zret (pc := 30) hX (by decide) (hQ _) dX4_leaveToComeNear_30
  · refine J_aload_n (pc := 17) hX 1 rfl dX4_leaveToComeNear_17 ?_
    refine g_X4_116 (pc := 18) hX ht0 dX4_leaveToComeNear_18 ?_
    refine J_iconst (pc := 21) hX (v := (1 : Int32)) (by decide) dX4_leaveToComeNear_21 ?_
    refine J_icmp_eq (pc := 22) hX (tgt := 29) (by decide) dX4_leaveToComeNear_22 (fun h5 => ?_) (fun h5 => ?_)
    · refine J_iconst (pc := 29) hX (v := (0 : Int32)) (by decide) dX4_leaveToComeNear_29 ?_
      exact J_zret (pc := 30) hX (by decide) (hQ _) dX4_leaveToComeNear_30
    · refine J_aload_n (pc := 25) hX 0 rfl dX4_leaveToComeNear_25 ?_
      refine J_ifnonnull (pc := 26) hX (tgt := 31) (by decide) dX4_leaveToComeNear_26 (fun h6 => ?_) (fun h6 => ?_)
      · refine J_aload_n (pc := 31) hX 0 rfl dX4_leaveToComeNear_31 ?_
        refine J_iload_n (pc := 32) hX 2 rfl dX4_leaveToComeNear_32 ?_
        refine J_call1 (fun y7 e8 => ?_)
        refine jrun_i (pc := 33) (jRunV hX s_X4_135 (ci := 2) (T := TX2) (N := 19) (As := [ji p0]) (rest := []) rfl (by decide) (C_X2_slotOf Y hz0 x1 (t3.resolve_left h6) p0 I0 L0 y7 e8) (t3.resolve_left h6) rfl rfl ⟨by decide, by decide⟩ ⟨Nat.le_of_ble_eq_true rfl, Nat.le_of_ble_eq_true rfl⟩ (Nat.le_of_ble_eq_true rfl) dX4_leaveToComeNear_33) ?_
        refine J_istore_n (pc := 36) hX (lo' := [(3, ji y7), (2, jr x1), (0, jr t0), (1, ji p0)]) (by decide) rfl dX4_leaveToComeNear_36 ?_
        refine J_aload_n (pc := 37) hX 1 rfl dX4_leaveToComeNear_37 ?_
        refine J_iload_n (pc := 38) hX 0 rfl dX4_leaveToComeNear_38 ?_
        refine J_call1 (fun y9 e10 => ?_)
        refine jrun_i (pc := 39) (jRunV hX s_X4_150 (ci := 2) (T := TX2) (N := 19) (As := [ji y7]) (rest := []) rfl (by decide) (C_X2_isDirty Y hz0 x1 (t3.resolve_left h6) y7 I0 L0 y9 e10) (t3.resolve_left h6) rfl rfl ⟨by decide, by decide⟩ ⟨Nat.le_of_ble_eq_true rfl, Nat.le_of_ble_eq_true rfl⟩ (Nat.le_of_ble_eq_true rfl) dX4_leaveToComeNear_39) ?_
        refine J_istore (pc := 42) hX (lo' := [(4, ji y9), (3, ji y7), (2, jr x1), (0, jr t0), (1, ji p0)]) (by decide) rfl dX4_leaveToComeNear_42 ?_
        refine J_aload_n (pc := 44) hX 2 rfl dX4_leaveToComeNear_44 ?_
        refine J_iload_n (pc := 45) hX 1 rfl dX4_leaveToComeNear_45 ?_
        refine J_call2 (fun y11 I12 e13 => ?_)
        refine jrun_i (pc := 46) (jRunV hX s_X4_153 (ci := 2) (T := TX2) (N := 19) (As := [ji y7]) (rest := []) rfl (by decide) (C_X2_release Y hz0 x1 (t3.resolve_left h6) y7 I0 L0 y11 I12 e13) (t3.resolve_left h6) rfl rfl ⟨by decide, by decide⟩ ⟨Nat.le_of_ble_eq_true rfl, Nat.le_of_ble_eq_true rfl⟩ (Nat.le_of_ble_eq_true rfl) dX4_leaveToComeNear_46) ?_
        refine J_pop (pc := 49) hX rfl dX4_leaveToComeNear_49 ?_
        refine J_iload (pc := 50) hX 0 rfl dX4_leaveToComeNear_50 ?_
        exact J_zretG (pc := 52) hX (hQ _) dX4_leaveToComeNear_52
      · refine J_iconst (pc := 29) hX (v := (0 : Int32)) (by decide) dX4_leaveToComeNear_29 ?_
        exact J_zret (pc := 30) hX (by decide) (hQ _) dX4_leaveToComeNear_30
theorem C_X4_leaveToComeNear (Y : jY) (hz0 : Y.zf = false) (t0 : Nat) (ht0 : shC t0 = 5) (p0 : Int32) (I0 : jI) (L0 : jL) (r : Int32) (I1 : jI) (h : X4_leaveToComeNear t0 p0 I0 = some (r, I1)) : jMet Y yX4_leaveToComeNear cX4_leaveToComeNear 5 (some .boolean) 2 102 0 0 [jr t0, ji p0] NC shC rfC I0 L0 (some (ji r)) NC shC rfC I1 L0 :=
  jmet_of _ _ h (fun Z r => jQ Y Z 0 0 (some (ji r.1)) NC shC rfC r.2 L0) (fun _ => rfl) (by decide) (Nat.le_of_ble_eq_true rfl) (fun Z hX => W_X4_leaveToComeNear hz0 t0 ht0 p0 I0 L0 hX (fun _ => rfl))
def X4_farthestToHold (t0 : Nat) (I0 : jI) : Option (Int32) :=
jlet (if (I0 t0 16) = 0 then (I0 t0 1) else ((I0 t0 16) - (1 : Int32))) (fun (y2 : Int32) =>
if (I0 t0 4) = (2 : Int32) then (
some (jmin y2 (1 : Int32)))
else (
some y2))
set_option maxRecDepth 20000 in
set_option maxHeartbeats 4000000 in
theorem W_X4_farthestToHold {Y : jY} {Z : jZ} {Qf : Int32 → State → Prop} (hz0 : Y.zf = false) (t0 : Nat) (ht0 : shC t0 = 5) (I0 : jI) (L0 : jL) (hX : jOK Y Z RX4 cX4_farthestToHold 2 "farthestToHold" (some .int) 1 80 0 0) (hQ : ∀ r : Int32, Qf r = jQ Y Z 0 0 (some (ji r)) NC shC rfC I0 L0) : J Y Z 2 Qf (X4_farthestToHold t0 I0) 0 [(0, jr t0)] [] 0 0 NC shC rfC I0 L0 := by
  unfold X4_farthestToHold
  refine J_aload_n (pc := 0) hX 0 rfl dX4_farthestToHold_0 ?_
  refine g_X4_116 (pc := 1) hX ht0 dX4_farthestToHold_1 ?_
  refine J_vjoin (fun kq (y2 : Int32) => J Y Z 2 Qf (kq) 20 [(0, jr t0)] [ji y2] 0 0 NC shC rfC I0 L0) (fun y2 => ?_) (fun hj => ?_)
  · try dsimp only
    refine J_istore_n (pc := 20) hX (lo' := [(1, ji y2), (0, jr t0)]) (by decide) rfl dX4_farthestToHold_20 ?_
    refine J_aload_n (pc := 21) hX 1 rfl dX4_farthestToHold_21 ?_
    refine g_X4_60 (pc := 22) hX ht0 dX4_farthestToHold_22 ?_
    refine J_iconst (pc := 25) hX (v := (2 : Int32)) (by decide) dX4_farthestToHold_25 ?_
    refine J_icmp_ne (pc := 26) hX (tgt := 37) (by decide) dX4_farthestToHold_26 (fun h3 => ?_) (fun h3 => ?_)
    · refine J_iload_n (pc := 37) hX 0 rfl dX4_farthestToHold_37 ?_
      exact J_iret (pc := 38) hX (hQ _) dX4_farthestToHold_38
    · refine J_iload_n (pc := 29) hX 0 rfl dX4_farthestToHold_29 ?_
      refine J_iconst (pc := 30) hX (v := (1 : Int32)) (by decide) dX4_farthestToHold_30 ?_
      refine J_mmin (pc := 31) hX m_X4_156 ⟨by decide, by decide⟩ ⟨Nat.le_of_ble_eq_true rfl, Nat.le_of_ble_eq_true rfl⟩ (Nat.le_of_ble_eq_true rfl) dX4_farthestToHold_31 ?_
      refine J_goto (pc := 34) hX (tgt := 38) (by decide) dX4_farthestToHold_34 ?_
      exact J_iret (pc := 38) hX (hQ _) dX4_farthestToHold_38
  try dsimp only at hj
  refine J_if_neV (pc := 4) hX (tgt := 14) (by decide) dX4_farthestToHold_4 (fun h1 => ?_) (fun h1 => ?_)
  · refine J_aload_n (pc := 14) hX 0 rfl dX4_farthestToHold_14 ?_
    refine g_X4_116 (pc := 15) hX ht0 dX4_farthestToHold_15 ?_
    refine J_iconst (pc := 18) hX (v := (1 : Int32)) (by decide) dX4_farthestToHold_18 ?_
    refine J_isub (pc := 19) hX dX4_farthestToHold_19 ?_
    exact hj _
  · refine J_aload_n (pc := 7) hX 0 rfl dX4_farthestToHold_7 ?_
    refine g_X4_43 (pc := 8) hX ht0 dX4_farthestToHold_8 ?_
    refine J_goto (pc := 11) hX (tgt := 20) (by decide) dX4_farthestToHold_11 ?_
    exact hj _
theorem C_X4_farthestToHold (Y : jY) (hz0 : Y.zf = false) (t0 : Nat) (ht0 : shC t0 = 5) (I0 : jI) (L0 : jL) (r : Int32) (h : X4_farthestToHold t0 I0 = some r) : jMet Y yX4_farthestToHold cX4_farthestToHold 2 (some .int) 1 80 0 0 [jr t0] NC shC rfC I0 L0 (some (ji r)) NC shC rfC I0 L0 :=
  jmet_of _ _ h (fun Z r => jQ Y Z 0 0 (some (ji r)) NC shC rfC I0 L0) (fun _ => rfl) (by decide) (Nat.le_of_ble_eq_true rfl) (fun Z hX => W_X4_farthestToHold hz0 t0 ht0 I0 L0 hX (fun _ => rfl))
def X4_victimOf (t0 : Nat) (p0 : Nat) (I0 : jI) : Option (Int32 × jI) :=
if (I0 p0 2) = (7 : Int32) then (
jb2 (X2_clockVictim p0 I0) (fun (y9 : Int32) (I10 : jI) =>
some (y9, I10)))
else (
if (I0 p0 2) = (8 : Int32) then (
jlet (jup I0 p0 4 ((I0 p0 4) + (1 : Int32))) (fun (I5 : jI) =>
jb2 (X0_drawBelow (rfC t0 14) (I5 p0 0) I5) (fun (y6 : Int32) (I7 : jI) =>
some (y6, I7))))
else (
(X2_notedVictim p0 I0).bind (fun (y3 : Int32) =>
some (y3, I0))))
set_option maxRecDepth 20000 in
set_option maxHeartbeats 4000000 in
theorem W_X4_victimOf {Y : jY} {Z : jZ} {Qf : Int32 × jI → State → Prop} (hz0 : Y.zf = false) (t0 : Nat) (ht0 : shC t0 = 5) (p0 : Nat) (hp0 : shC p0 = 3) (I0 : jI) (L0 : jL) (hX : jOK Y Z RX4 cX4_victimOf 2 "victimOf" (some .int) 3 124 0 0) (hQ : ∀ r : Int32 × jI, Qf r = jQ Y Z 0 0 (some (ji r.1)) NC shC rfC r.2 L0) : J Y Z 2 Qf (X4_victimOf t0 p0 I0) 0 [(0, jr t0), (1, jr p0)] [] 0 0 NC shC rfC I0 L0 := by
  unfold X4_victimOf
  refine J_aload_n (pc := 0) hX 1 rfl dX4_victimOf_0 ?_
  refine g_X4_190 (pc := 1) hX hp0 dX4_victimOf_1 ?_
  refine J_bipush (pc := 4) hX (v := (7 : Int32)) (by decide) dX4_victimOf_4 ?_
  refine J_icmp_ne (pc := 6) hX (tgt := 14) (by decide) dX4_victimOf_6 (fun h1 => ?_) (fun h1 => ?_)
  · refine J_aload_n (pc := 14) hX 1 rfl dX4_victimOf_14 ?_
    refine g_X4_190 (pc := 15) hX hp0 dX4_victimOf_15 ?_
    refine J_bipush (pc := 18) hX (v := (8 : Int32)) (by decide) dX4_victimOf_18 ?_
    refine J_icmp_ne (pc := 20) hX (tgt := 45) (by decide) dX4_victimOf_20 (fun h2 => ?_) (fun h2 => ?_)
    · refine J_aload_n (pc := 45) hX 1 rfl dX4_victimOf_45 ?_
      refine J_call1 (fun y3 e4 => ?_)
      refine jrun_i (pc := 46) (jRunV hX s_X4_205 (ci := 2) (T := TX2) (N := 19) (As := []) (rest := []) rfl (by decide) (C_X2_notedVictim Y hz0 p0 hp0 I0 L0 y3 e4) hp0 rfl rfl ⟨by decide, by decide⟩ ⟨Nat.le_of_ble_eq_true rfl, Nat.le_of_ble_eq_true rfl⟩ (Nat.le_of_ble_eq_true rfl) dX4_victimOf_46) ?_
      exact J_iret (pc := 49) hX (hQ _) dX4_victimOf_49
    · refine J_aload_n (pc := 23) hX 1 rfl dX4_victimOf_23 ?_
      refine J_dup (pc := 24) hX rfl dX4_victimOf_24 ?_
      refine g_X4_196 (pc := 25) hX hp0 dX4_victimOf_25 ?_
      refine J_iconst (pc := 28) hX (v := (1 : Int32)) (by decide) dX4_victimOf_28 ?_
      refine J_iadd (pc := 29) hX dX4_victimOf_29 ?_
      refine p_X4_196 (pc := 30) hX hp0 dX4_victimOf_30 (fun I5 => ?_)
      refine J_aload_n (pc := 33) hX 0 rfl dX4_victimOf_33 ?_
      refine g_X4_31 (pc := 34) hX ht0 dX4_victimOf_34 ?_
      refine J_aload_n (pc := 37) hX 1 rfl dX4_victimOf_37 ?_
      refine g_X4_199 (pc := 38) hX hp0 dX4_victimOf_38 ?_
      refine J_call2 (fun y6 I7 e8 => ?_)
      refine jrun_i (pc := 41) (jRunV hX s_X4_202 (ci := 0) (T := TX0) (N := 2) (As := [ji (I5 p0 0)]) (rest := []) rfl (by decide) (C_X0_drawBelow Y hz0 (rfC t0 14) (fs_4_14 t0 ht0) (I5 p0 0) I5 L0 y6 I7 e8) (fs_4_14 t0 ht0) rfl rfl ⟨by decide, by decide⟩ ⟨Nat.le_of_ble_eq_true rfl, Nat.le_of_ble_eq_true rfl⟩ (Nat.le_of_ble_eq_true rfl) dX4_victimOf_41) ?_
      exact J_iret (pc := 44) hX (hQ _) dX4_victimOf_44
  · refine J_aload_n (pc := 9) hX 1 rfl dX4_victimOf_9 ?_
    refine J_call2 (fun y9 I10 e11 => ?_)
    refine jrun_i (pc := 10) (jRunV hX s_X4_193 (ci := 2) (T := TX2) (N := 19) (As := []) (rest := []) rfl (by decide) (C_X2_clockVictim Y hz0 p0 hp0 I0 L0 y9 I10 e11) hp0 rfl rfl ⟨by decide, by decide⟩ ⟨Nat.le_of_ble_eq_true rfl, Nat.le_of_ble_eq_true rfl⟩ (Nat.le_of_ble_eq_true rfl) dX4_victimOf_10) ?_
    exact J_iret (pc := 13) hX (hQ _) dX4_victimOf_13
theorem C_X4_victimOf (Y : jY) (hz0 : Y.zf = false) (t0 : Nat) (ht0 : shC t0 = 5) (p0 : Nat) (hp0 : shC p0 = 3) (I0 : jI) (L0 : jL) (r : Int32) (I1 : jI) (h : X4_victimOf t0 p0 I0 = some (r, I1)) : jMet Y yX4_victimOf cX4_victimOf 2 (some .int) 3 124 0 0 [jr t0, jr p0] NC shC rfC I0 L0 (some (ji r)) NC shC rfC I1 L0 :=
  jmet_of _ _ h (fun Z r => jQ Y Z 0 0 (some (ji r.1)) NC shC rfC r.2 L0) (fun _ => rfl) (by decide) (Nat.le_of_ble_eq_true rfl) (fun Z hX => W_X4_victimOf hz0 t0 ht0 p0 hp0 I0 L0 hX (fun _ => rfl))
def X4_nearestDirty_F1 (t0 : Nat) (p1 : Int32) (p2 : Int32) (I0 : jI) (g2 : Int32 → Option (Nat)) : Int32 → Option (Nat) := fun (v1 : Int32) =>
if p1 < v1 then (
some 0)
else (
(X4_levelAt t0 v1 I0).bind (fun (x4 : Nat) =>
jlet (
g2 (v1 + (1 : Int32))) (fun (k7 : Option (Nat)) =>
if x4 = 0 then (
k7)
else (
(X2_slotOf x4 p2 I0).bind (fun (y9 : Int32) =>
(X2_isDirty x4 y9 I0).bind (fun (y11 : Int32) =>
if y11 = 0 then (
k7)
else (
some x4)))))))
def X4_nearestDirty (t0 : Nat) (p0 : Int32) (p1 : Int32) (p2 : Int32) (I0 : jI) : Option (Nat) :=
jfx (X4_nearestDirty_F1 t0 p1 p2 I0) (fun _ => none) 1000 p0
set_option maxRecDepth 20000 in
set_option maxHeartbeats 4000000 in
theorem W_X4_nearestDirty {Y : jY} {Z : jZ} {Qf : Nat → State → Prop} (hz0 : Y.zf = false) (t0 : Nat) (ht0 : shC t0 = 5) (p0 : Int32) (p1 : Int32) (p2 : Int32) (I0 : jI) (L0 : jL) (hX : jOK Y Z RX4 cX4_nearestDirty 6 "nearestDirty" (some (.object "PageLevels$Level")) 2 101 0 0) (hQ : ∀ r : Nat, Qf r = jQ Y Z 0 0 (some (jr r)) NC shC rfC I0 L0) : J Y Z 6 Qf (X4_nearestDirty t0 p0 p1 p2 I0) 0 [(0, jr t0), (1, ji p0), (2, ji p1), (3, ji p2)] [] 0 0 NC shC rfC I0 L0 := by
  unfold X4_nearestDirty
  refine J_iload_n (pc := 0) hX 1 rfl dX4_nearestDirty_0 ?_
  refine J_istore (pc := 1) hX (lo' := [(4, ji p0), (0, jr t0), (1, ji p0), (2, ji p1), (3, ji p2)]) (by decide) rfl dX4_nearestDirty_1 ?_
  have lhg2 : ∀ mq : Nat, ∀ (v1 : Int32), J Y Z 6 Qf (jfx (X4_nearestDirty_F1 t0 p1 p2 I0) (fun _ => none) mq v1) 3 [(0, jr t0), (2, ji p1), (3, ji p2), (4, ji v1)] [] 0 0 NC shC rfC I0 L0 := by
    intro mq
    refine jfx_J (fun (_ : Nat) (g2 : Int32 → Option (Nat)) => ∀ (v1 : Int32), J Y Z 6 Qf (g2 v1) 3 [(0, jr t0), (2, ji p1), (3, ji p2), (4, ji v1)] [] 0 0 NC shC rfC I0 L0) ?_ (fun _ g2 hg2 => ?_) mq
    · intro v1
      exact J_none
    intro v1
    unfold X4_nearestDirty_F1
    try dsimp only
    refine J_iload (pc := 3) hX 3 rfl dX4_nearestDirty_3 ?_
    refine J_iload_n (pc := 5) hX 1 rfl dX4_nearestDirty_5 ?_
    refine J_icmp_gt (pc := 6) hX (tgt := 45) (by decide) dX4_nearestDirty_6 (fun h3 => ?_) (fun h3 => ?_)
    · refine J_null (pc := 45) hX dX4_nearestDirty_45 ?_
      exact J_aret (pc := 46) hX (hQ _) dX4_nearestDirty_46
    · refine J_aload_n (pc := 9) hX 0 rfl dX4_nearestDirty_9 ?_
      refine J_iload (pc := 10) hX 3 rfl dX4_nearestDirty_10 ?_
      refine J_call1 (fun x4 e5 => ?_)
      refine jrun_r (pc := 12) (jRunV hX s_X4_46 (ci := 4) (T := TX4) (N := 18) (As := [ji v1]) (rest := []) rfl (by decide) (C_X4_levelAt Y hz0 t0 ht0 v1 I0 L0 x4 e5) ht0 rfl rfl ⟨by decide, by decide⟩ ⟨Nat.le_of_ble_eq_true rfl, Nat.le_of_ble_eq_true rfl⟩ (Nat.le_of_ble_eq_true rfl) dX4_nearestDirty_12) ?_
      have t6 := T_X4_levelAt t0 ht0 v1 I0 e5
      refine J_astore (pc := 15) hX (lo' := [(5, jr x4), (0, jr t0), (2, ji p1), (3, ji p2), (4, ji v1)]) (by decide) rfl dX4_nearestDirty_15 ?_
      refine J_aload (pc := 17) hX 0 rfl dX4_nearestDirty_17 ?_
      refine J_join (fun (k7 : Option (Nat)) => J Y Z 6 Qf (k7) 39 [(0, jr t0), (2, ji p1), (3, ji p2), (4, ji v1)] [] 0 0 NC shC rfC I0 L0) ?_ (fun k7 hk7 => ?_)
      · refine J_iinc (pc := 39) hX (v := (v1 + (1 : Int32))) (lo' := [(4, ji (v1 + (1 : Int32))), (0, jr t0), (2, ji p1), (3, ji p2)]) 3 rfl (by rfl) (by decide) rfl dX4_nearestDirty_39 ?_
        refine J_goto (pc := 42) hX (tgt := 3) (by decide) dX4_nearestDirty_42 ?_
        refine J_sub [1, 2, 3, 0] rfl ?_
        exact hg2 (v1 + (1 : Int32))
      refine J_ifnull (pc := 19) hX (tgt := 39) (by decide) dX4_nearestDirty_19 (fun h8 => ?_) (fun h8 => ?_)
      · refine J_sub [1, 2, 3, 4] rfl ?_
        exact hk7
      · refine J_aload (pc := 22) hX 0 rfl dX4_nearestDirty_22 ?_
        refine J_aload (pc := 24) hX 0 rfl dX4_nearestDirty_24 ?_
        refine J_iload_n (pc := 26) hX 3 rfl dX4_nearestDirty_26 ?_
        refine J_call1 (fun y9 e10 => ?_)
        refine jrun_i (pc := 27) (jRunV hX s_X4_135 (ci := 2) (T := TX2) (N := 19) (As := [ji p2]) (rest := [jr x4]) rfl (by decide) (C_X2_slotOf Y hz0 x4 (t6.resolve_left h8) p2 I0 L0 y9 e10) (t6.resolve_left h8) rfl rfl ⟨by decide, by decide⟩ ⟨Nat.le_of_ble_eq_true rfl, Nat.le_of_ble_eq_true rfl⟩ (Nat.le_of_ble_eq_true rfl) dX4_nearestDirty_27) ?_
        refine J_call1 (fun y11 e12 => ?_)
        refine jrun_i (pc := 30) (jRunV hX s_X4_150 (ci := 2) (T := TX2) (N := 19) (As := [ji y9]) (rest := []) rfl (by decide) (C_X2_isDirty Y hz0 x4 (t6.resolve_left h8) y9 I0 L0 y11 e12) (t6.resolve_left h8) rfl rfl ⟨by decide, by decide⟩ ⟨Nat.le_of_ble_eq_true rfl, Nat.le_of_ble_eq_true rfl⟩ (Nat.le_of_ble_eq_true rfl) dX4_nearestDirty_30) ?_
        refine J_if_eq (pc := 33) hX (tgt := 39) (by decide) dX4_nearestDirty_33 (fun h13 => ?_) (fun h13 => ?_)
        · refine J_sub [1, 2, 3, 4] rfl ?_
          exact hk7
        · refine J_aload (pc := 36) hX 0 rfl dX4_nearestDirty_36 ?_
          exact J_aret (pc := 38) hX (hQ _) dX4_nearestDirty_38
  refine J_sub [1, 3, 4, 0] rfl ?_
  exact lhg2 1000 p0
theorem C_X4_nearestDirty (Y : jY) (hz0 : Y.zf = false) (t0 : Nat) (ht0 : shC t0 = 5) (p0 : Int32) (p1 : Int32) (p2 : Int32) (I0 : jI) (L0 : jL) (r : Nat) (h : X4_nearestDirty t0 p0 p1 p2 I0 = some r) : jMet Y yX4_nearestDirty cX4_nearestDirty 6 (some (.object "PageLevels$Level")) 2 101 0 0 [jr t0, ji p0, ji p1, ji p2] NC shC rfC I0 L0 (some (jr r)) NC shC rfC I0 L0 :=
  jmet_of _ _ h (fun Z r => jQ Y Z 0 0 (some (jr r)) NC shC rfC I0 L0) (fun _ => rfl) (by decide) (Nat.le_of_ble_eq_true rfl) (fun Z hX => W_X4_nearestDirty hz0 t0 ht0 p0 p1 p2 I0 L0 hX (fun _ => rfl))
theorem T_X4_nearestDirty (t0 : Nat) (ht0 : shC t0 = 5) (p0 p1 p2 : Int32) (I0 : jI) {r : Nat} (e : X4_nearestDirty t0 p0 p1 p2 I0 = some r) : r = 0 ∨ shC r = 3 := by
  have key : ∀ (m : Nat) (v : Int32), jfx (X4_nearestDirty_F1 t0 p1 p2 I0) (fun _ => none) m v = some r → r = 0 ∨ shC r = 3 := by
    intro m
    induction m with
    | zero => intro v h; cases h
    | succ m ih =>
      intro v h
      have h : X4_nearestDirty_F1 t0 p1 p2 I0 (jfx (X4_nearestDirty_F1 t0 p1 p2 I0) (fun _ => none) m) v = some r := h
      unfold X4_nearestDirty_F1 at h
      split at h
      · cases h; exact Or.inl rfl
      · rw [Option.bind_eq_some_iff] at h
        obtain ⟨x, hx, h⟩ := h
        unfold jlet at h
        split at h
        · exact ih _ h
        · rw [Option.bind_eq_some_iff] at h
          obtain ⟨y, -, h⟩ := h
          rw [Option.bind_eq_some_iff] at h
          obtain ⟨y2, -, h⟩ := h
          split at h
          · exact ih _ h
          · cases h
            exact T_X4_levelAt t0 ht0 _ _ hx
  exact key 1000 _ e
def X4_flush_F1 (t0 : Nat) (p1 : Int32) (p2 : Int32) (I4 : jI) (g8 : Int32 → Option (jI)) : Int32 → Option (jI) := fun (v7 : Int32) =>
if (I4 t0 1) < v7 then (
(X4_putInMemory t0 p1 p2 I4).bind (fun (I10 : jI) =>
some I10))
else (
(X4_levelAt t0 v7 I4).bind (fun (x12 : Nat) =>
jlet (
g8 (v7 + (1 : Int32))) (fun (k15 : Option (jI)) =>
if x12 = 0 then (
k15)
else (
(X2_slotOf x12 p1 I4).bind (fun (y17 : Int32) =>
if y17 = (-1 : Int32) then (
k15)
else (
(X2_slotOf x12 p1 I4).bind (fun (y20 : Int32) =>
(X2_change x12 y20 p2 (1 : Int32) I4).bind (fun (I22 : jI) =>
some I22))))))))
def X4_flush (t0 : Nat) (p0 : Int32) (p1 : Int32) (p2 : Int32) (I0 : jI) : Option (jI) :=
(X4_levelAt t0 p0 I0).bind (fun (x1 : Nat) =>
jlet (fun (I4 : jI) =>
jlet ((p0 + (1 : Int32))) (fun (y6 : Int32) =>
jfx (X4_flush_F1 t0 p1 p2 I4) (fun _ => none) 1000 y6)) (fun (k5 : jI → Option (jI)) =>
if x1 = 0 then (
k5 I0)
else (
jlet (jup I0 x1 8 ((I0 x1 8) + (1 : Int32))) (fun (I25 : jI) =>
k5 I25))))
set_option maxRecDepth 20000 in
set_option maxHeartbeats 4000000 in
theorem W_X4_flush {Y : jY} {Z : jZ} {Qf : jI → State → Prop} (hz0 : Y.zf = false) (t0 : Nat) (ht0 : shC t0 = 5) (p0 : Int32) (p1 : Int32) (p2 : Int32) (I0 : jI) (L0 : jL) (hX : jOK Y Z RX4 cX4_flush 7 "flush" none 2 103 0 0) (hQ : ∀ r : jI, Qf r = jQ Y Z 0 0 none NC shC rfC r L0) : J Y Z 7 Qf (X4_flush t0 p0 p1 p2 I0) 0 [(0, jr t0), (1, ji p0), (2, ji p1), (3, ji p2)] [] 0 0 NC shC rfC I0 L0 := by
  unfold X4_flush
  refine J_aload_n (pc := 0) hX 0 rfl dX4_flush_0 ?_
  refine J_iload_n (pc := 1) hX 1 rfl dX4_flush_1 ?_
  refine J_call1 (fun x1 e2 => ?_)
  refine jrun_r (pc := 2) (jRunV hX s_X4_46 (ci := 4) (T := TX4) (N := 18) (As := [ji p0]) (rest := []) rfl (by decide) (C_X4_levelAt Y hz0 t0 ht0 p0 I0 L0 x1 e2) ht0 rfl rfl ⟨by decide, by decide⟩ ⟨Nat.le_of_ble_eq_true rfl, Nat.le_of_ble_eq_true rfl⟩ (Nat.le_of_ble_eq_true rfl) dX4_flush_2) ?_
  have t3 := T_X4_levelAt t0 ht0 p0 I0 e2
  refine J_astore (pc := 5) hX (lo' := [(4, jr x1), (0, jr t0), (1, ji p0), (2, ji p1), (3, ji p2)]) (by decide) rfl dX4_flush_5 ?_
  refine J_aload (pc := 7) hX 0 rfl dX4_flush_7 ?_
  refine J_join (fun (k5 : jI → Option (jI)) => ∀ (I4 : jI), J Y Z 7 Qf (k5 I4) 23 [(0, jr t0), (1, ji p0), (2, ji p1), (3, ji p2)] [] 0 0 NC shC rfC I4 L0) ?_ (fun k5 hk5 => ?_)
  · intro I4
    try dsimp only
    refine J_iload_n (pc := 23) hX 1 rfl dX4_flush_23 ?_
    refine J_iconst (pc := 24) hX (v := (1 : Int32)) (by decide) dX4_flush_24 ?_
    refine J_iadd (pc := 25) hX dX4_flush_25 ?_
    refine J_leti (fun y6 => ?_)
    refine J_istore (pc := 26) hX (lo' := [(5, ji y6), (0, jr t0), (1, ji p0), (2, ji p1), (3, ji p2)]) (by decide) rfl dX4_flush_26 ?_
    have lhg8 : ∀ mq : Nat, ∀ (v7 : Int32), J Y Z 7 Qf (jfx (X4_flush_F1 t0 p1 p2 I4) (fun _ => none) mq v7) 28 [(0, jr t0), (2, ji p1), (3, ji p2), (5, ji v7)] [] 0 0 NC shC rfC I4 L0 := by
      intro mq
      refine jfx_J (fun (_ : Nat) (g8 : Int32 → Option (jI)) => ∀ (v7 : Int32), J Y Z 7 Qf (g8 v7) 28 [(0, jr t0), (2, ji p1), (3, ji p2), (5, ji v7)] [] 0 0 NC shC rfC I4 L0) ?_ (fun _ g8 hg8 => ?_) mq
      · intro v7
        exact J_none
      intro v7
      unfold X4_flush_F1
      try dsimp only
      refine J_iload (pc := 28) hX 3 rfl dX4_flush_28 ?_
      refine J_aload_n (pc := 30) hX 0 rfl dX4_flush_30 ?_
      refine g_X4_43 (pc := 31) hX ht0 dX4_flush_31 ?_
      refine J_icmp_gt (pc := 34) hX (tgt := 80) (by decide) dX4_flush_34 (fun h9 => ?_) (fun h9 => ?_)
      · refine J_aload_n (pc := 80) hX 0 rfl dX4_flush_80 ?_
        refine J_iload_n (pc := 81) hX 1 rfl dX4_flush_81 ?_
        refine J_iload_n (pc := 82) hX 2 rfl dX4_flush_82 ?_
        refine J_call1 (fun I10 e11 => ?_)
        refine jrun_v (pc := 83) (jRunV hX s_X4_166 (ci := 4) (T := TX4) (N := 18) (As := [ji p1, ji p2]) (rest := []) rfl (by decide) (C_X4_putInMemory Y hz0 t0 ht0 p1 p2 I4 L0 I10 e11) ht0 rfl rfl ⟨by decide, by decide⟩ ⟨Nat.le_of_ble_eq_true rfl, Nat.le_of_ble_eq_true rfl⟩ (Nat.le_of_ble_eq_true rfl) dX4_flush_83) ?_
        exact J_vret (pc := 86) hX (hQ _) dX4_flush_86
      · refine J_aload_n (pc := 37) hX 0 rfl dX4_flush_37 ?_
        refine J_iload (pc := 38) hX 3 rfl dX4_flush_38 ?_
        refine J_call1 (fun x12 e13 => ?_)
        refine jrun_r (pc := 40) (jRunV hX s_X4_46 (ci := 4) (T := TX4) (N := 18) (As := [ji v7]) (rest := []) rfl (by decide) (C_X4_levelAt Y hz0 t0 ht0 v7 I4 L0 x12 e13) ht0 rfl rfl ⟨by decide, by decide⟩ ⟨Nat.le_of_ble_eq_true rfl, Nat.le_of_ble_eq_true rfl⟩ (Nat.le_of_ble_eq_true rfl) dX4_flush_40) ?_
        have t14 := T_X4_levelAt t0 ht0 v7 I4 e13
        refine J_astore (pc := 43) hX (lo' := [(6, jr x12), (0, jr t0), (2, ji p1), (3, ji p2), (5, ji v7)]) (by decide) rfl dX4_flush_43 ?_
        refine J_aload (pc := 45) hX 0 rfl dX4_flush_45 ?_
        refine J_join (fun (k15 : Option (jI)) => J Y Z 7 Qf (k15) 74 [(0, jr t0), (2, ji p1), (3, ji p2), (5, ji v7)] [] 0 0 NC shC rfC I4 L0) ?_ (fun k15 hk15 => ?_)
        · refine J_iinc (pc := 74) hX (v := (v7 + (1 : Int32))) (lo' := [(5, ji (v7 + (1 : Int32))), (0, jr t0), (2, ji p1), (3, ji p2)]) 3 rfl (by rfl) (by decide) rfl dX4_flush_74 ?_
          refine J_goto (pc := 77) hX (tgt := 28) (by decide) dX4_flush_77 ?_
          refine J_sub [1, 2, 3, 0] rfl ?_
          exact hg8 (v7 + (1 : Int32))
        refine J_ifnull (pc := 47) hX (tgt := 74) (by decide) dX4_flush_47 (fun h16 => ?_) (fun h16 => ?_)
        · refine J_sub [1, 2, 3, 4] rfl ?_
          exact hk15
        · refine J_aload (pc := 50) hX 0 rfl dX4_flush_50 ?_
          refine J_iload_n (pc := 52) hX 2 rfl dX4_flush_52 ?_
          refine J_call1 (fun y17 e18 => ?_)
          refine jrun_i (pc := 53) (jRunV hX s_X4_135 (ci := 2) (T := TX2) (N := 19) (As := [ji p1]) (rest := []) rfl (by decide) (C_X2_slotOf Y hz0 x12 (t14.resolve_left h16) p1 I4 L0 y17 e18) (t14.resolve_left h16) rfl rfl ⟨by decide, by decide⟩ ⟨Nat.le_of_ble_eq_true rfl, Nat.le_of_ble_eq_true rfl⟩ (Nat.le_of_ble_eq_true rfl) dX4_flush_53) ?_
          refine J_iconst (pc := 56) hX (v := (-1 : Int32)) (by decide) dX4_flush_56 ?_
          refine J_icmp_eq (pc := 57) hX (tgt := 74) (by decide) dX4_flush_57 (fun h19 => ?_) (fun h19 => ?_)
          · refine J_sub [1, 2, 3, 4] rfl ?_
            exact hk15
          · refine J_aload (pc := 60) hX 0 rfl dX4_flush_60 ?_
            refine J_aload (pc := 62) hX 0 rfl dX4_flush_62 ?_
            refine J_iload_n (pc := 64) hX 2 rfl dX4_flush_64 ?_
            refine J_call1 (fun y20 e21 => ?_)
            refine jrun_i (pc := 65) (jRunV hX s_X4_135 (ci := 2) (T := TX2) (N := 19) (As := [ji p1]) (rest := [jr x12]) rfl (by decide) (C_X2_slotOf Y hz0 x12 (t14.resolve_left h16) p1 I4 L0 y20 e21) (t14.resolve_left h16) rfl rfl ⟨by decide, by decide⟩ ⟨Nat.le_of_ble_eq_true rfl, Nat.le_of_ble_eq_true rfl⟩ (Nat.le_of_ble_eq_true rfl) dX4_flush_65) ?_
            refine J_iload_n (pc := 68) hX 3 rfl dX4_flush_68 ?_
            refine J_iconst (pc := 69) hX (v := (1 : Int32)) (by decide) dX4_flush_69 ?_
            refine J_call1 (fun I22 e23 => ?_)
            refine jrun_v (pc := 70) (jRunV hX s_X4_162 (ci := 2) (T := TX2) (N := 19) (As := [ji y20, ji p2, ji (1 : Int32)]) (rest := []) rfl (by decide) (C_X2_change Y hz0 x12 (t14.resolve_left h16) y20 p2 (1 : Int32) I4 L0 I22 e23) (t14.resolve_left h16) rfl rfl ⟨by decide, by decide⟩ ⟨Nat.le_of_ble_eq_true rfl, Nat.le_of_ble_eq_true rfl⟩ (Nat.le_of_ble_eq_true rfl) dX4_flush_70) ?_
            exact J_vret (pc := 73) hX (hQ _) dX4_flush_73
    refine J_sub [1, 3, 4, 0] rfl ?_
    exact lhg8 1000 y6
  refine J_ifnull (pc := 9) hX (tgt := 23) (by decide) dX4_flush_9 (fun h24 => ?_) (fun h24 => ?_)
  · refine J_sub [1, 2, 3, 4] rfl ?_
    exact hk5 I0
  · refine J_aload (pc := 12) hX 0 rfl dX4_flush_12 ?_
    refine J_dup (pc := 14) hX rfl dX4_flush_14 ?_
    refine g_X4_216 (pc := 15) hX (t3.resolve_left h24) dX4_flush_15 ?_
    refine J_iconst (pc := 18) hX (v := (1 : Int32)) (by decide) dX4_flush_18 ?_
    refine J_iadd (pc := 19) hX dX4_flush_19 ?_
    refine p_X4_216 (pc := 20) hX (t3.resolve_left h24) dX4_flush_20 (fun I25 => ?_)
    refine J_sub [1, 2, 3, 4] rfl ?_
    exact hk5 I25
theorem C_X4_flush (Y : jY) (hz0 : Y.zf = false) (t0 : Nat) (ht0 : shC t0 = 5) (p0 : Int32) (p1 : Int32) (p2 : Int32) (I0 : jI) (L0 : jL) (I1 : jI) (h : X4_flush t0 p0 p1 p2 I0 = some I1) : jMet Y yX4_flush cX4_flush 7 none 2 103 0 0 [jr t0, ji p0, ji p1, ji p2] NC shC rfC I0 L0 none NC shC rfC I1 L0 :=
  jmet_of _ _ h (fun Z r => jQ Y Z 0 0 none NC shC rfC r L0) (fun _ => rfl) (by decide) (Nat.le_of_ble_eq_true rfl) (fun Z hX => W_X4_flush hz0 t0 ht0 p0 p1 p2 I0 L0 hX (fun _ => rfl))
def X4_flushVictim_F1 (t0 : Nat) (p0 : Int32) (p1 : Int32) (g10 : Int32 → jI → Option (jI)) : Int32 → jI → Option (jI) := fun (v8 : Int32) (I9 : jI) =>
if p0 ≤ v8 then (
some I9)
else (
(X4_levelAt t0 v8 I9).bind (fun (x12 : Nat) =>
jlet (fun (I15 : jI) =>
g10 (v8 + (1 : Int32)) I15) (fun (k16 : jI → Option (jI)) =>
if x12 = 0 then (
k16 I9)
else (
(X2_slotOf x12 p1 I9).bind (fun (y18 : Int32) =>
(X2_letOut x12 y18 I9).bind (fun (I20 : jI) =>
k16 I20))))))
def X4_flushVictim (t0 : Nat) (p0 : Int32) (p1 : Int32) (I0 : jI) : Option (jI) :=
jlet (if (I0 t0 4) = (1 : Int32) then (1 : Int32) else p0) (fun (y2 : Int32) =>
(X4_nearestDirty t0 y2 p0 p1 I0).bind (fun (x3 : Nat) =>
jlet (fun (I6 : jI) =>
jfx (X4_flushVictim_F1 t0 p0 p1) (fun _ _ => none) 1000 y2 I6) (fun (k7 : jI → Option (jI)) =>
if x3 = 0 then (
k7 I0)
else (
(X2_slotOf x3 p1 I0).bind (fun (y23 : Int32) =>
(X2_valueIn x3 y23 I0).bind (fun (y25 : Int32) =>
(X4_flush t0 p0 p1 y25 I0).bind (fun (I27 : jI) =>
k7 I27)))))))
set_option maxRecDepth 20000 in
set_option maxHeartbeats 4000000 in
theorem W_X4_flushVictim {Y : jY} {Z : jZ} {Qf : jI → State → Prop} (hz0 : Y.zf = false) (t0 : Nat) (ht0 : shC t0 = 5) (p0 : Int32) (p1 : Int32) (I0 : jI) (L0 : jL) (hX : jOK Y Z RX4 cX4_flushVictim 7 "flushVictim" none 3 129 0 0) (hQ : ∀ r : jI, Qf r = jQ Y Z 0 0 none NC shC rfC r L0) : J Y Z 7 Qf (X4_flushVictim t0 p0 p1 I0) 0 [(0, jr t0), (1, ji p0), (2, ji p1)] [] 0 0 NC shC rfC I0 L0 := by
  unfold X4_flushVictim
  refine J_aload_n (pc := 0) hX 0 rfl dX4_flushVictim_0 ?_
  refine g_X4_60 (pc := 1) hX ht0 dX4_flushVictim_1 ?_
  refine J_iconst (pc := 4) hX (v := (1 : Int32)) (by decide) dX4_flushVictim_4 ?_
  refine J_vjoin (fun kq (y2 : Int32) => J Y Z 7 Qf (kq) 13 [(0, jr t0), (1, ji p0), (2, ji p1)] [ji y2] 0 0 NC shC rfC I0 L0) (fun y2 => ?_) (fun hj => ?_)
  · try dsimp only
    refine J_istore_n (pc := 13) hX (lo' := [(3, ji y2), (0, jr t0), (1, ji p0), (2, ji p1)]) (by decide) rfl dX4_flushVictim_13 ?_
    refine J_aload_n (pc := 14) hX 1 rfl dX4_flushVictim_14 ?_
    refine J_iload_n (pc := 15) hX 0 rfl dX4_flushVictim_15 ?_
    refine J_iload_n (pc := 16) hX 2 rfl dX4_flushVictim_16 ?_
    refine J_iload_n (pc := 17) hX 3 rfl dX4_flushVictim_17 ?_
    refine J_call1 (fun x3 e4 => ?_)
    refine jrun_r (pc := 18) (jRunV hX s_X4_208 (ci := 4) (T := TX4) (N := 18) (As := [ji y2, ji p0, ji p1]) (rest := []) rfl (by decide) (C_X4_nearestDirty Y hz0 t0 ht0 y2 p0 p1 I0 L0 x3 e4) ht0 rfl rfl ⟨by decide, by decide⟩ ⟨Nat.le_of_ble_eq_true rfl, Nat.le_of_ble_eq_true rfl⟩ (Nat.le_of_ble_eq_true rfl) dX4_flushVictim_18) ?_
    have t5 := T_X4_nearestDirty t0 ht0 y2 p0 p1 I0 e4
    refine J_astore (pc := 21) hX (lo' := [(4, jr x3), (3, ji y2), (0, jr t0), (1, ji p0), (2, ji p1)]) (by decide) rfl dX4_flushVictim_21 ?_
    refine J_aload (pc := 23) hX 0 rfl dX4_flushVictim_23 ?_
    refine J_join (fun (k7 : jI → Option (jI)) => ∀ (I6 : jI), J Y Z 7 Qf (k7 I6) 45 [(0, jr t0), (1, ji p0), (2, ji p1), (3, ji y2)] [] 0 0 NC shC rfC I6 L0) ?_ (fun k7 hk7 => ?_)
    · intro I6
      try dsimp only
      refine J_iload_n (pc := 45) hX 3 rfl dX4_flushVictim_45 ?_
      refine J_istore (pc := 46) hX (lo' := [(5, ji y2), (0, jr t0), (1, ji p0), (2, ji p1), (3, ji y2)]) (by decide) rfl dX4_flushVictim_46 ?_
      have lhg10 : ∀ mq : Nat, ∀ (v8 : Int32) (I9 : jI), J Y Z 7 Qf (jfx (X4_flushVictim_F1 t0 p0 p1) (fun _ _ => none) mq v8 I9) 48 [(0, jr t0), (1, ji p0), (2, ji p1), (5, ji v8)] [] 0 0 NC shC rfC I9 L0 := by
        intro mq
        refine jfx_J (fun (_ : Nat) (g10 : Int32 → jI → Option (jI)) => ∀ (v8 : Int32) (I9 : jI), J Y Z 7 Qf (g10 v8 I9) 48 [(0, jr t0), (1, ji p0), (2, ji p1), (5, ji v8)] [] 0 0 NC shC rfC I9 L0) ?_ (fun _ g10 hg10 => ?_) mq
        · intro v8 I9
          exact J_none
        intro v8 I9
        unfold X4_flushVictim_F1
        try dsimp only
        refine J_iload (pc := 48) hX 3 rfl dX4_flushVictim_48 ?_
        refine J_iload_n (pc := 50) hX 1 rfl dX4_flushVictim_50 ?_
        refine J_icmp_ge (pc := 51) hX (tgt := 84) (by decide) dX4_flushVictim_51 (fun h11 => ?_) (fun h11 => ?_)
        · exact J_vret (pc := 84) hX (hQ _) dX4_flushVictim_84
        · refine J_aload_n (pc := 54) hX 0 rfl dX4_flushVictim_54 ?_
          refine J_iload (pc := 55) hX 3 rfl dX4_flushVictim_55 ?_
          refine J_call1 (fun x12 e13 => ?_)
          refine jrun_r (pc := 57) (jRunV hX s_X4_46 (ci := 4) (T := TX4) (N := 18) (As := [ji v8]) (rest := []) rfl (by decide) (C_X4_levelAt Y hz0 t0 ht0 v8 I9 L0 x12 e13) ht0 rfl rfl ⟨by decide, by decide⟩ ⟨Nat.le_of_ble_eq_true rfl, Nat.le_of_ble_eq_true rfl⟩ (Nat.le_of_ble_eq_true rfl) dX4_flushVictim_57) ?_
          have t14 := T_X4_levelAt t0 ht0 v8 I9 e13
          refine J_astore (pc := 60) hX (lo' := [(6, jr x12), (0, jr t0), (1, ji p0), (2, ji p1), (5, ji v8)]) (by decide) rfl dX4_flushVictim_60 ?_
          refine J_aload (pc := 62) hX 0 rfl dX4_flushVictim_62 ?_
          refine J_join (fun (k16 : jI → Option (jI)) => ∀ (I15 : jI), J Y Z 7 Qf (k16 I15) 78 [(0, jr t0), (1, ji p0), (2, ji p1), (5, ji v8)] [] 0 0 NC shC rfC I15 L0) ?_ (fun k16 hk16 => ?_)
          · intro I15
            try dsimp only
            refine J_iinc (pc := 78) hX (v := (v8 + (1 : Int32))) (lo' := [(5, ji (v8 + (1 : Int32))), (0, jr t0), (1, ji p0), (2, ji p1)]) 3 rfl (by rfl) (by decide) rfl dX4_flushVictim_78 ?_
            refine J_goto (pc := 81) hX (tgt := 48) (by decide) dX4_flushVictim_81 ?_
            refine J_sub [1, 2, 3, 0] rfl ?_
            exact hg10 (v8 + (1 : Int32)) I15
          refine J_ifnull (pc := 64) hX (tgt := 78) (by decide) dX4_flushVictim_64 (fun h17 => ?_) (fun h17 => ?_)
          · refine J_sub [1, 2, 3, 4] rfl ?_
            exact hk16 I9
          · refine J_aload (pc := 67) hX 0 rfl dX4_flushVictim_67 ?_
            refine J_aload (pc := 69) hX 0 rfl dX4_flushVictim_69 ?_
            refine J_iload_n (pc := 71) hX 3 rfl dX4_flushVictim_71 ?_
            refine J_call1 (fun y18 e19 => ?_)
            refine jrun_i (pc := 72) (jRunV hX s_X4_135 (ci := 2) (T := TX2) (N := 19) (As := [ji p1]) (rest := [jr x12]) rfl (by decide) (C_X2_slotOf Y hz0 x12 (t14.resolve_left h17) p1 I9 L0 y18 e19) (t14.resolve_left h17) rfl rfl ⟨by decide, by decide⟩ ⟨Nat.le_of_ble_eq_true rfl, Nat.le_of_ble_eq_true rfl⟩ (Nat.le_of_ble_eq_true rfl) dX4_flushVictim_72) ?_
            refine J_call1 (fun I20 e21 => ?_)
            refine jrun_v (pc := 75) (jRunV hX s_X4_182 (ci := 2) (T := TX2) (N := 19) (As := [ji y18]) (rest := []) rfl (by decide) (C_X2_letOut Y hz0 x12 (t14.resolve_left h17) y18 I9 L0 I20 e21) (t14.resolve_left h17) rfl rfl ⟨by decide, by decide⟩ ⟨Nat.le_of_ble_eq_true rfl, Nat.le_of_ble_eq_true rfl⟩ (Nat.le_of_ble_eq_true rfl) dX4_flushVictim_75) ?_
            refine J_sub [1, 2, 3, 4] rfl ?_
            exact hk16 I20
      refine J_sub [1, 2, 3, 0] rfl ?_
      exact lhg10 1000 y2 I6
    refine J_ifnull (pc := 25) hX (tgt := 45) (by decide) dX4_flushVictim_25 (fun h22 => ?_) (fun h22 => ?_)
    · refine J_sub [2, 3, 4, 1] rfl ?_
      exact hk7 I0
    · refine J_aload_n (pc := 28) hX 2 rfl dX4_flushVictim_28 ?_
      refine J_iload_n (pc := 29) hX 3 rfl dX4_flushVictim_29 ?_
      refine J_iload_n (pc := 30) hX 4 rfl dX4_flushVictim_30 ?_
      refine J_aload (pc := 31) hX 0 rfl dX4_flushVictim_31 ?_
      refine J_aload (pc := 33) hX 0 rfl dX4_flushVictim_33 ?_
      refine J_iload_n (pc := 35) hX 4 rfl dX4_flushVictim_35 ?_
      refine J_call1 (fun y23 e24 => ?_)
      refine jrun_i (pc := 36) (jRunV hX s_X4_135 (ci := 2) (T := TX2) (N := 19) (As := [ji p1]) (rest := [jr x3, ji p1, ji p0, jr t0]) rfl (by decide) (C_X2_slotOf Y hz0 x3 (t5.resolve_left h22) p1 I0 L0 y23 e24) (t5.resolve_left h22) rfl rfl ⟨by decide, by decide⟩ ⟨Nat.le_of_ble_eq_true rfl, Nat.le_of_ble_eq_true rfl⟩ (Nat.le_of_ble_eq_true rfl) dX4_flushVictim_36) ?_
      refine J_call1 (fun y25 e26 => ?_)
      refine jrun_i (pc := 39) (jRunV hX s_X4_144 (ci := 2) (T := TX2) (N := 19) (As := [ji y23]) (rest := [ji p1, ji p0, jr t0]) rfl (by decide) (C_X2_valueIn Y hz0 x3 (t5.resolve_left h22) y23 I0 L0 y25 e26) (t5.resolve_left h22) rfl rfl ⟨by decide, by decide⟩ ⟨Nat.le_of_ble_eq_true rfl, Nat.le_of_ble_eq_true rfl⟩ (Nat.le_of_ble_eq_true rfl) dX4_flushVictim_39) ?_
      refine J_call1 (fun I27 e28 => ?_)
      refine jrun_v (pc := 42) (jRunV hX s_X4_212 (ci := 4) (T := TX4) (N := 18) (As := [ji p0, ji p1, ji y25]) (rest := []) rfl (by decide) (C_X4_flush Y hz0 t0 ht0 p0 p1 y25 I0 L0 I27 e28) ht0 rfl rfl ⟨by decide, by decide⟩ ⟨Nat.le_of_ble_eq_true rfl, Nat.le_of_ble_eq_true rfl⟩ (Nat.le_of_ble_eq_true rfl) dX4_flushVictim_42) ?_
      refine J_sub [2, 3, 4, 1] rfl ?_
      exact hk7 I27
  try dsimp only at hj
  refine J_icmp_neV (pc := 5) hX (tgt := 12) (by decide) dX4_flushVictim_5 (fun h1 => ?_) (fun h1 => ?_)
  · refine J_iload_n (pc := 12) hX 1 rfl dX4_flushVictim_12 ?_
    exact hj _
  · refine J_iconst (pc := 8) hX (v := (1 : Int32)) (by decide) dX4_flushVictim_8 ?_
    refine J_goto (pc := 9) hX (tgt := 13) (by decide) dX4_flushVictim_9 ?_
    exact hj _
theorem C_X4_flushVictim (Y : jY) (hz0 : Y.zf = false) (t0 : Nat) (ht0 : shC t0 = 5) (p0 : Int32) (p1 : Int32) (I0 : jI) (L0 : jL) (I1 : jI) (h : X4_flushVictim t0 p0 p1 I0 = some I1) : jMet Y yX4_flushVictim cX4_flushVictim 7 none 3 129 0 0 [jr t0, ji p0, ji p1] NC shC rfC I0 L0 none NC shC rfC I1 L0 :=
  jmet_of _ _ h (fun Z r => jQ Y Z 0 0 none NC shC rfC r L0) (fun _ => rfl) (by decide) (Nat.le_of_ble_eq_true rfl) (fun Z hX => W_X4_flushVictim hz0 t0 ht0 p0 p1 I0 L0 hX (fun _ => rfl))
def X4_placeIntoF (rec : Nat → Int32 → Int32 → Int32 → Int32 → jI → Option (jI)) (p0 : Nat) (p1 : Int32) (p2 : Int32) (p3 : Int32) (p4 : Int32) (I0 : jI) : Option (jI) :=
(X4_levelAt p0 p1 I0).bind (fun (x1 : Nat) =>
if x1 = 0 then (
some I0)
else (
(X2_freeSlot x1 I0).bind (fun (y5 : Int32) =>
jlet (fun (v7 : Int32) (I8 : jI) =>
(X2_hold x1 v7 p2 (I8 p0 13) (I8 p0 7) I8).bind (fun (I10 : jI) =>
(X2_change x1 v7 p3 p4 I10).bind (fun (I12 : jI) =>
jlet (jup I12 p0 13 ((I12 p0 13) + (1 : Int32))) (fun (I14 : jI) =>
some I14)))) (fun (k9 : Int32 → jI → Option (jI)) =>
if y5 = (-1 : Int32) then (
jb2 (X4_victimOf p0 x1 I0) (fun (y16 : Int32) (I17 : jI) =>
jlet (fun (I19 : jI) =>
(X2_letOut x1 y16 I19).bind (fun (I21 : jI) =>
k9 y16 I21)) (fun (k20 : jI → Option (jI)) =>
jlet (
(X2_pageIn x1 y16 I17).bind (fun (y24 : Int32) =>
(X4_flushVictim p0 p1 y24 I17).bind (fun (I26 : jI) =>
k20 I26))) (fun (k23 : Option (jI)) =>
if (I17 p0 4) = (2 : Int32) then (
if (I17 p0 1) ≤ p1 then (
k23)
else (
(X2_pageIn x1 y16 I17).bind (fun (y30 : Int32) =>
(X2_valueIn x1 y16 I17).bind (fun (y32 : Int32) =>
(X2_isDirty x1 y16 I17).bind (fun (y34 : Int32) =>
(rec p0 (p1 + (1 : Int32)) y30 y32 y34 I17).bind (fun (I36 : jI) =>
k20 I36))))))
else (
k23)))))
else (
k9 y5 I0)))))
set_option maxRecDepth 20000 in
set_option maxHeartbeats 4000000 in
theorem W_X4_placeIntoF {Y : jY} {Z : jZ} {Qf : jI → State → Prop} (hz0 : Y.zf = false) (m : Nat) (rec : Nat → Int32 → Int32 → Int32 → Int32 → jI → Option (jI)) (hrec : ∀ (p0 : Nat) (hp0 : shC p0 = 5) (p1 : Int32) (p2 : Int32) (p3 : Int32) (p4 : Int32) (I0 : jI) (L0 : jL) (I1 : jI) (_ : rec p0 p1 p2 p3 p4 I0 = some I1), jMet Y yX4_placeInto cX4_placeInto 7 none (4 + 4 * m) (155 + 200 * m) 0 0 [jr p0, ji p1, ji p2, ji p3, ji p4] NC shC rfC I0 L0 none NC shC rfC I1 L0) (p0 : Nat) (hp0 : shC p0 = 5) (p1 : Int32) (p2 : Int32) (p3 : Int32) (p4 : Int32) (I0 : jI) (L0 : jL) (hX : jOK Y Z RX4 cX4_placeInto 7 "placeInto" none (4 + 4 * (m + 1)) (155 + 200 * (m + 1)) 0 0) (hQ : ∀ r : jI, Qf r = jQ Y Z 0 0 none NC shC rfC r L0) : J Y Z 7 Qf (X4_placeIntoF rec p0 p1 p2 p3 p4 I0) 0 [(0, jr p0), (1, ji p1), (2, ji p2), (3, ji p3), (4, ji p4)] [] 0 0 NC shC rfC I0 L0 := by
  unfold X4_placeIntoF
  refine J_aload_n (pc := 0) hX 0 rfl dX4_placeInto_0 ?_
  refine J_iload_n (pc := 1) hX 1 rfl dX4_placeInto_1 ?_
  refine J_call1 (fun x1 e2 => ?_)
  refine jrun_r (pc := 2) (jRunV hX s_X4_46 (ci := 4) (T := TX4) (N := 18) (As := [ji p1]) (rest := []) rfl (by decide) (C_X4_levelAt Y hz0 p0 hp0 p1 I0 L0 x1 e2) hp0 rfl rfl ⟨by omega, by omega⟩ ⟨Nat.le_of_ble_eq_true rfl, Nat.le_of_ble_eq_true rfl⟩ (Nat.le_of_ble_eq_true rfl) dX4_placeInto_2) ?_
  have t3 := T_X4_levelAt p0 hp0 p1 I0 e2
  refine J_astore (pc := 5) hX (lo' := [(5, jr x1), (0, jr p0), (1, ji p1), (2, ji p2), (3, ji p3), (4, ji p4)]) (by decide) rfl dX4_placeInto_5 ?_
  refine J_aload (pc := 7) hX 0 rfl dX4_placeInto_7 ?_
  refine J_ifnonnull (pc := 9) hX (tgt := 13) (by decide) dX4_placeInto_9 (fun h4 => ?_) (fun h4 => ?_)
  · refine J_aload (pc := 13) hX 0 rfl dX4_placeInto_13 ?_
    refine J_call1 (fun y5 e6 => ?_)
    refine jrun_i (pc := 15) (jRunV hX s_X4_169 (ci := 2) (T := TX2) (N := 19) (As := []) (rest := []) rfl (by decide) (C_X2_freeSlot Y hz0 x1 (t3.resolve_left h4) I0 L0 y5 e6) (t3.resolve_left h4) rfl rfl ⟨by omega, by omega⟩ ⟨Nat.le_of_ble_eq_true rfl, Nat.le_of_ble_eq_true rfl⟩ (Nat.le_of_ble_eq_true rfl) dX4_placeInto_15) ?_
    refine J_istore (pc := 18) hX (lo' := [(6, ji y5), (5, jr x1), (0, jr p0), (1, ji p1), (2, ji p2), (3, ji p3), (4, ji p4)]) (by decide) rfl dX4_placeInto_18 ?_
    refine J_iload (pc := 20) hX 0 rfl dX4_placeInto_20 ?_
    refine J_iconst (pc := 22) hX (v := (-1 : Int32)) (by decide) dX4_placeInto_22 ?_
    refine J_join (fun (k9 : Int32 → jI → Option (jI)) => ∀ (v7 : Int32) (I8 : jI), J Y Z 7 Qf (k9 v7 I8) 100 [(0, jr p0), (2, ji p2), (3, ji p3), (4, ji p4), (5, jr x1), (6, ji v7)] [] 0 0 NC shC rfC I8 L0) ?_ (fun k9 hk9 => ?_)
    · intro v7 I8
      try dsimp only
      refine J_aload (pc := 100) hX 4 rfl dX4_placeInto_100 ?_
      refine J_iload (pc := 102) hX 5 rfl dX4_placeInto_102 ?_
      refine J_iload_n (pc := 104) hX 1 rfl dX4_placeInto_104 ?_
      refine J_aload_n (pc := 105) hX 0 rfl dX4_placeInto_105 ?_
      refine g_X4_84 (pc := 106) hX hp0 dX4_placeInto_106 ?_
      refine J_aload_n (pc := 109) hX 0 rfl dX4_placeInto_109 ?_
      refine g_X4_69 (pc := 110) hX hp0 dX4_placeInto_110 ?_
      refine J_call1 (fun I10 e11 => ?_)
      refine jrun_v (pc := 113) (jRunV hX s_X4_186 (ci := 2) (T := TX2) (N := 19) (As := [ji v7, ji p2, ji (I8 p0 13), ji (I8 p0 7)]) (rest := []) rfl (by decide) (C_X2_hold Y hz0 x1 (t3.resolve_left h4) v7 p2 (I8 p0 13) (I8 p0 7) I8 L0 I10 e11) (t3.resolve_left h4) rfl rfl ⟨by omega, by omega⟩ ⟨Nat.le_of_ble_eq_true rfl, Nat.le_of_ble_eq_true rfl⟩ (Nat.le_of_ble_eq_true rfl) dX4_placeInto_113) ?_
      refine J_aload (pc := 116) hX 4 rfl dX4_placeInto_116 ?_
      refine J_iload (pc := 118) hX 5 rfl dX4_placeInto_118 ?_
      refine J_iload_n (pc := 120) hX 2 rfl dX4_placeInto_120 ?_
      refine J_iload (pc := 121) hX 3 rfl dX4_placeInto_121 ?_
      refine J_call1 (fun I12 e13 => ?_)
      refine jrun_v (pc := 123) (jRunV hX s_X4_162 (ci := 2) (T := TX2) (N := 19) (As := [ji v7, ji p3, ji p4]) (rest := []) rfl (by decide) (C_X2_change Y hz0 x1 (t3.resolve_left h4) v7 p3 p4 I10 L0 I12 e13) (t3.resolve_left h4) rfl rfl ⟨by omega, by omega⟩ ⟨Nat.le_of_ble_eq_true rfl, Nat.le_of_ble_eq_true rfl⟩ (Nat.le_of_ble_eq_true rfl) dX4_placeInto_123) ?_
      refine J_aload_n (pc := 126) hX 0 rfl dX4_placeInto_126 ?_
      refine J_dup (pc := 127) hX rfl dX4_placeInto_127 ?_
      refine g_X4_84 (pc := 128) hX hp0 dX4_placeInto_128 ?_
      refine J_iconst (pc := 131) hX (v := (1 : Int32)) (by decide) dX4_placeInto_131 ?_
      refine J_iadd (pc := 132) hX dX4_placeInto_132 ?_
      refine p_X4_84 (pc := 133) hX hp0 dX4_placeInto_133 (fun I14 => ?_)
      exact J_vret (pc := 136) hX (hQ _) dX4_placeInto_136
    refine J_icmp_ne (pc := 23) hX (tgt := 100) (by decide) dX4_placeInto_23 (fun h15 => ?_) (fun h15 => ?_)
    · refine J_sub [2, 4, 5, 6, 1, 0] rfl ?_
      exact hk9 y5 I0
    · refine J_aload_n (pc := 26) hX 2 rfl dX4_placeInto_26 ?_
      refine J_aload (pc := 27) hX 1 rfl dX4_placeInto_27 ?_
      refine J_call2 (fun y16 I17 e18 => ?_)
      refine jrun_i (pc := 29) (jRunV hX s_X4_172 (ci := 4) (T := TX4) (N := 18) (As := [jr x1]) (rest := []) rfl (by decide) (C_X4_victimOf Y hz0 p0 hp0 x1 (t3.resolve_left h4) I0 L0 y16 I17 e18) hp0 rfl rfl ⟨by omega, by omega⟩ ⟨Nat.le_of_ble_eq_true rfl, Nat.le_of_ble_eq_true rfl⟩ (Nat.le_of_ble_eq_true rfl) dX4_placeInto_29) ?_
      refine J_istore (pc := 32) hX (lo' := [(6, ji y16), (5, jr x1), (0, jr p0), (1, ji p1), (2, ji p2), (3, ji p3), (4, ji p4)]) (by decide) rfl dX4_placeInto_32 ?_
      refine J_aload_n (pc := 34) hX 2 rfl dX4_placeInto_34 ?_
      refine g_X4_60 (pc := 35) hX hp0 dX4_placeInto_35 ?_
      refine J_iconst (pc := 38) hX (v := (2 : Int32)) (by decide) dX4_placeInto_38 ?_
      refine J_join (fun (k20 : jI → Option (jI)) => ∀ (I19 : jI), J Y Z 7 Qf (k20 I19) 93 [(0, jr p0), (2, ji p2), (3, ji p3), (4, ji p4), (5, jr x1), (6, ji y16)] [] 0 0 NC shC rfC I19 L0) ?_ (fun k20 hk20 => ?_)
      · intro I19
        try dsimp only
        refine J_aload (pc := 93) hX 4 rfl dX4_placeInto_93 ?_
        refine J_iload (pc := 95) hX 5 rfl dX4_placeInto_95 ?_
        refine J_call1 (fun I21 e22 => ?_)
        refine jrun_v (pc := 97) (jRunV hX s_X4_182 (ci := 2) (T := TX2) (N := 19) (As := [ji y16]) (rest := []) rfl (by decide) (C_X2_letOut Y hz0 x1 (t3.resolve_left h4) y16 I19 L0 I21 e22) (t3.resolve_left h4) rfl rfl ⟨by omega, by omega⟩ ⟨Nat.le_of_ble_eq_true rfl, Nat.le_of_ble_eq_true rfl⟩ (Nat.le_of_ble_eq_true rfl) dX4_placeInto_97) ?_
        exact hk9 y16 I21
      refine J_join (fun (k23 : Option (jI)) => J Y Z 7 Qf (k23) 81 [(0, jr p0), (1, ji p1), (2, ji p2), (3, ji p3), (4, ji p4), (5, jr x1), (6, ji y16)] [] 0 0 NC shC rfC I17 L0) ?_ (fun k23 hk23 => ?_)
      · refine J_aload_n (pc := 81) hX 0 rfl dX4_placeInto_81 ?_
        refine J_iload_n (pc := 82) hX 1 rfl dX4_placeInto_82 ?_
        refine J_aload (pc := 83) hX 5 rfl dX4_placeInto_83 ?_
        refine J_iload (pc := 85) hX 6 rfl dX4_placeInto_85 ?_
        refine J_call1 (fun y24 e25 => ?_)
        refine jrun_i (pc := 87) (jRunV hX s_X4_176 (ci := 2) (T := TX2) (N := 19) (As := [ji y16]) (rest := [ji p1, jr p0]) rfl (by decide) (C_X2_pageIn Y hz0 x1 (t3.resolve_left h4) y16 I17 L0 y24 e25) (t3.resolve_left h4) rfl rfl ⟨by omega, by omega⟩ ⟨Nat.le_of_ble_eq_true rfl, Nat.le_of_ble_eq_true rfl⟩ (Nat.le_of_ble_eq_true rfl) dX4_placeInto_87) ?_
        refine J_call1 (fun I26 e27 => ?_)
        refine jrun_v (pc := 90) (jRunV hX s_X4_179 (ci := 4) (T := TX4) (N := 18) (As := [ji p1, ji y24]) (rest := []) rfl (by decide) (C_X4_flushVictim Y hz0 p0 hp0 p1 y24 I17 L0 I26 e27) hp0 rfl rfl ⟨by omega, by omega⟩ ⟨Nat.le_of_ble_eq_true rfl, Nat.le_of_ble_eq_true rfl⟩ (Nat.le_of_ble_eq_true rfl) dX4_placeInto_90) ?_
        refine J_sub [0, 2, 3, 4, 5, 6] rfl ?_
        exact hk20 I26
      refine J_icmp_ne (pc := 39) hX (tgt := 81) (by decide) dX4_placeInto_39 (fun h28 => ?_) (fun h28 => ?_)
      · refine J_sub [2, 3, 4, 5, 6, 1, 0] rfl ?_
        exact hk23
      · refine J_iload_n (pc := 42) hX 3 rfl dX4_placeInto_42 ?_
        refine J_aload_n (pc := 43) hX 2 rfl dX4_placeInto_43 ?_
        refine g_X4_43 (pc := 44) hX hp0 dX4_placeInto_44 ?_
        refine J_icmp_ge (pc := 47) hX (tgt := 81) (by decide) dX4_placeInto_47 (fun h29 => ?_) (fun h29 => ?_)
        · refine J_sub [2, 3, 4, 5, 6, 1, 0] rfl ?_
          exact hk23
        · refine J_aload_n (pc := 50) hX 2 rfl dX4_placeInto_50 ?_
          refine J_iload_n (pc := 51) hX 3 rfl dX4_placeInto_51 ?_
          refine J_iconst (pc := 52) hX (v := (1 : Int32)) (by decide) dX4_placeInto_52 ?_
          refine J_iadd (pc := 53) hX dX4_placeInto_53 ?_
          refine J_aload (pc := 54) hX 1 rfl dX4_placeInto_54 ?_
          refine J_iload (pc := 56) hX 0 rfl dX4_placeInto_56 ?_
          refine J_call1 (fun y30 e31 => ?_)
          refine jrun_i (pc := 58) (jRunV hX s_X4_176 (ci := 2) (T := TX2) (N := 19) (As := [ji y16]) (rest := [ji (p1 + (1 : Int32)), jr p0]) rfl (by decide) (C_X2_pageIn Y hz0 x1 (t3.resolve_left h4) y16 I17 L0 y30 e31) (t3.resolve_left h4) rfl rfl ⟨by omega, by omega⟩ ⟨Nat.le_of_ble_eq_true rfl, Nat.le_of_ble_eq_true rfl⟩ (Nat.le_of_ble_eq_true rfl) dX4_placeInto_58) ?_
          refine J_aload (pc := 61) hX 1 rfl dX4_placeInto_61 ?_
          refine J_iload (pc := 63) hX 0 rfl dX4_placeInto_63 ?_
          refine J_call1 (fun y32 e33 => ?_)
          refine jrun_i (pc := 65) (jRunV hX s_X4_144 (ci := 2) (T := TX2) (N := 19) (As := [ji y16]) (rest := [ji y30, ji (p1 + (1 : Int32)), jr p0]) rfl (by decide) (C_X2_valueIn Y hz0 x1 (t3.resolve_left h4) y16 I17 L0 y32 e33) (t3.resolve_left h4) rfl rfl ⟨by omega, by omega⟩ ⟨Nat.le_of_ble_eq_true rfl, Nat.le_of_ble_eq_true rfl⟩ (Nat.le_of_ble_eq_true rfl) dX4_placeInto_65) ?_
          refine J_aload (pc := 68) hX 1 rfl dX4_placeInto_68 ?_
          refine J_iload (pc := 70) hX 0 rfl dX4_placeInto_70 ?_
          refine J_call1 (fun y34 e35 => ?_)
          refine jrun_i (pc := 72) (jRunV hX s_X4_150 (ci := 2) (T := TX2) (N := 19) (As := [ji y16]) (rest := [ji y32, ji y30, ji (p1 + (1 : Int32)), jr p0]) rfl (by decide) (C_X2_isDirty Y hz0 x1 (t3.resolve_left h4) y16 I17 L0 y34 e35) (t3.resolve_left h4) rfl rfl ⟨by omega, by omega⟩ ⟨Nat.le_of_ble_eq_true rfl, Nat.le_of_ble_eq_true rfl⟩ (Nat.le_of_ble_eq_true rfl) dX4_placeInto_72) ?_
          refine J_call1 (fun I36 e37 => ?_)
          refine jrun_v (pc := 75) (jRunS hX s_X4_108 (As := [jr p0, ji (p1 + (1 : Int32)), ji y30, ji y32, ji y34]) (rest := []) (hrec p0 hp0 (p1 + (1 : Int32)) y30 y32 y34 I17 L0 I36 e37) rfl rfl ⟨by omega, by omega⟩ ⟨Nat.le_of_ble_eq_true rfl, Nat.le_of_ble_eq_true rfl⟩ (Nat.le_of_ble_eq_true rfl) dX4_placeInto_75) ?_
          refine J_goto (pc := 78) hX (tgt := 93) (by decide) dX4_placeInto_78 ?_
          refine J_sub [2, 4, 5, 6, 1, 0] rfl ?_
          exact hk20 I36
  · exact J_vret (pc := 12) hX (hQ _) dX4_placeInto_12
theorem C_X4_placeIntoF (Y : jY) (hz0 : Y.zf = false) (m : Nat) (rec : Nat → Int32 → Int32 → Int32 → Int32 → jI → Option (jI)) (hrec : ∀ (p0 : Nat) (hp0 : shC p0 = 5) (p1 : Int32) (p2 : Int32) (p3 : Int32) (p4 : Int32) (I0 : jI) (L0 : jL) (I1 : jI) (_ : rec p0 p1 p2 p3 p4 I0 = some I1), jMet Y yX4_placeInto cX4_placeInto 7 none (4 + 4 * m) (155 + 200 * m) 0 0 [jr p0, ji p1, ji p2, ji p3, ji p4] NC shC rfC I0 L0 none NC shC rfC I1 L0) (p0 : Nat) (hp0 : shC p0 = 5) (p1 : Int32) (p2 : Int32) (p3 : Int32) (p4 : Int32) (I0 : jI) (L0 : jL) (I1 : jI) (h : X4_placeIntoF rec p0 p1 p2 p3 p4 I0 = some I1) : jMet Y yX4_placeInto cX4_placeInto 7 none (4 + 4 * (m + 1)) (155 + 200 * (m + 1)) 0 0 [jr p0, ji p1, ji p2, ji p3, ji p4] NC shC rfC I0 L0 none NC shC rfC I1 L0 :=
  jmet_of _ _ h (fun Z r => jQ Y Z 0 0 none NC shC rfC r L0) (fun _ => rfl) (by decide) (Nat.le_of_ble_eq_true rfl) (fun Z hX => W_X4_placeIntoF hz0 m rec hrec p0 hp0 p1 p2 p3 p4 I0 L0 hX (fun _ => rfl))
def X4_placeInto (m : Nat) : Nat → Int32 → Int32 → Int32 → Int32 → jI → Option (jI) := jfx X4_placeIntoF (fun _ _ _ _ _ _ => none) m
theorem C_X4_placeInto (Y : jY) (hz0 : Y.zf = false) (m : Nat) : ∀ (p0 : Nat) (hp0 : shC p0 = 5) (p1 : Int32) (p2 : Int32) (p3 : Int32) (p4 : Int32) (I0 : jI) (L0 : jL) (I1 : jI) (_ : (X4_placeInto m) p0 p1 p2 p3 p4 I0 = some I1), jMet Y yX4_placeInto cX4_placeInto 7 none (4 + 4 * m) (155 + 200 * m) 0 0 [jr p0, ji p1, ji p2, ji p3, ji p4] NC shC rfC I0 L0 none NC shC rfC I1 L0 := by
  refine jfx_J (fun (m : Nat) (rec : Nat → Int32 → Int32 → Int32 → Int32 → jI → Option (jI)) => ∀ (p0 : Nat) (hp0 : shC p0 = 5) (p1 : Int32) (p2 : Int32) (p3 : Int32) (p4 : Int32) (I0 : jI) (L0 : jL) (I1 : jI) (_ : rec p0 p1 p2 p3 p4 I0 = some I1), jMet Y yX4_placeInto cX4_placeInto 7 none (4 + 4 * m) (155 + 200 * m) 0 0 [jr p0, ji p1, ji p2, ji p3, ji p4] NC shC rfC I0 L0 none NC shC rfC I1 L0) ?_ (fun m rec hrec => ?_) m
  · intros
    next h => cases h
  · intro p0 hp0 p1 p2 p3 p4 I0 L0 I1 h
    exact C_X4_placeIntoF Y hz0 m rec hrec p0 hp0 p1 p2 p3 p4 I0 L0 I1 h
def X4_putValue_F1 (t0 : Nat) (p0 : Int32) (p1 : Int32) (g7 : Int32 → jI → Option (jI)) : Int32 → jI → Option (jI) := fun (v5 : Int32) (I6 : jI) =>
if (I6 t0 1) < v5 then (
(X4_putInMemory t0 p0 p1 I6).bind (fun (I9 : jI) =>
some I9))
else (
(X4_levelAt t0 v5 I6).bind (fun (x11 : Nat) =>
jlet (fun (I14 : jI) =>
g7 (v5 + (1 : Int32)) I14) (fun (k15 : jI → Option (jI)) =>
if x11 = 0 then (
k15 I6)
else (
(X2_slotOf x11 p0 I6).bind (fun (y17 : Int32) =>
(X2_change x11 y17 p1 (0 : Int32) I6).bind (fun (I19 : jI) =>
k15 I19))))))
def X4_putValue (t0 : Nat) (p0 : Int32) (p1 : Int32) (I0 : jI) : Option (jI) :=
(X4_levelAt t0 (1 : Int32) I0).bind (fun (x1 : Nat) =>
jlet (
jfx (X4_putValue_F1 t0 p0 p1) (fun _ _ => none) 1000 (1 : Int32) I0) (fun (k4 : Option (jI)) =>
if x1 = 0 then (
k4)
else (
if (I0 t0 5) = (1 : Int32) then (
k4)
else (
(X2_slotOf x1 p0 I0).bind (fun (y23 : Int32) =>
(X2_change x1 y23 p1 (1 : Int32) I0).bind (fun (I25 : jI) =>
some I25))))))
set_option maxRecDepth 20000 in
set_option maxHeartbeats 4000000 in
theorem W_X4_putValue {Y : jY} {Z : jZ} {Qf : jI → State → Prop} (hz0 : Y.zf = false) (t0 : Nat) (ht0 : shC t0 = 5) (p0 : Int32) (p1 : Int32) (I0 : jI) (L0 : jL) (hX : jOK Y Z RX4 cX4_putValue 6 "putValue" none 2 103 0 0) (hQ : ∀ r : jI, Qf r = jQ Y Z 0 0 none NC shC rfC r L0) : J Y Z 6 Qf (X4_putValue t0 p0 p1 I0) 0 [(0, jr t0), (1, ji p0), (2, ji p1)] [] 0 0 NC shC rfC I0 L0 := by
  unfold X4_putValue
  refine J_aload_n (pc := 0) hX 0 rfl dX4_putValue_0 ?_
  refine J_iconst (pc := 1) hX (v := (1 : Int32)) (by decide) dX4_putValue_1 ?_
  refine J_call1 (fun x1 e2 => ?_)
  refine jrun_r (pc := 2) (jRunV hX s_X4_46 (ci := 4) (T := TX4) (N := 18) (As := [ji (1 : Int32)]) (rest := []) rfl (by decide) (C_X4_levelAt Y hz0 t0 ht0 (1 : Int32) I0 L0 x1 e2) ht0 rfl rfl ⟨by decide, by decide⟩ ⟨Nat.le_of_ble_eq_true rfl, Nat.le_of_ble_eq_true rfl⟩ (Nat.le_of_ble_eq_true rfl) dX4_putValue_2) ?_
  have t3 := T_X4_levelAt t0 ht0 (1 : Int32) I0 e2
  refine J_astore_n (pc := 5) hX (lo' := [(3, jr x1), (0, jr t0), (1, ji p0), (2, ji p1)]) (by decide) rfl dX4_putValue_5 ?_
  refine J_aload_n (pc := 6) hX 0 rfl dX4_putValue_6 ?_
  refine J_join (fun (k4 : Option (jI)) => J Y Z 6 Qf (k4) 30 [(0, jr t0), (1, ji p0), (2, ji p1)] [] 0 0 NC shC rfC I0 L0) ?_ (fun k4 hk4 => ?_)
  · refine J_iconst (pc := 30) hX (v := (1 : Int32)) (by decide) dX4_putValue_30 ?_
    refine J_istore (pc := 31) hX (lo' := [(4, ji (1 : Int32)), (0, jr t0), (1, ji p0), (2, ji p1)]) (by decide) rfl dX4_putValue_31 ?_
    have lhg7 : ∀ mq : Nat, ∀ (v5 : Int32) (I6 : jI), J Y Z 6 Qf (jfx (X4_putValue_F1 t0 p0 p1) (fun _ _ => none) mq v5 I6) 33 [(0, jr t0), (1, ji p0), (2, ji p1), (4, ji v5)] [] 0 0 NC shC rfC I6 L0 := by
      intro mq
      refine jfx_J (fun (_ : Nat) (g7 : Int32 → jI → Option (jI)) => ∀ (v5 : Int32) (I6 : jI), J Y Z 6 Qf (g7 v5 I6) 33 [(0, jr t0), (1, ji p0), (2, ji p1), (4, ji v5)] [] 0 0 NC shC rfC I6 L0) ?_ (fun _ g7 hg7 => ?_) mq
      · intro v5 I6
        exact J_none
      intro v5 I6
      unfold X4_putValue_F1
      try dsimp only
      refine J_iload (pc := 33) hX 3 rfl dX4_putValue_33 ?_
      refine J_aload_n (pc := 35) hX 0 rfl dX4_putValue_35 ?_
      refine g_X4_43 (pc := 36) hX ht0 dX4_putValue_36 ?_
      refine J_icmp_gt (pc := 39) hX (tgt := 74) (by decide) dX4_putValue_39 (fun h8 => ?_) (fun h8 => ?_)
      · refine J_aload_n (pc := 74) hX 0 rfl dX4_putValue_74 ?_
        refine J_iload_n (pc := 75) hX 1 rfl dX4_putValue_75 ?_
        refine J_iload_n (pc := 76) hX 2 rfl dX4_putValue_76 ?_
        refine J_call1 (fun I9 e10 => ?_)
        refine jrun_v (pc := 77) (jRunV hX s_X4_166 (ci := 4) (T := TX4) (N := 18) (As := [ji p0, ji p1]) (rest := []) rfl (by decide) (C_X4_putInMemory Y hz0 t0 ht0 p0 p1 I6 L0 I9 e10) ht0 rfl rfl ⟨by decide, by decide⟩ ⟨Nat.le_of_ble_eq_true rfl, Nat.le_of_ble_eq_true rfl⟩ (Nat.le_of_ble_eq_true rfl) dX4_putValue_77) ?_
        exact J_vret (pc := 80) hX (hQ _) dX4_putValue_80
      · refine J_aload_n (pc := 42) hX 0 rfl dX4_putValue_42 ?_
        refine J_iload (pc := 43) hX 3 rfl dX4_putValue_43 ?_
        refine J_call1 (fun x11 e12 => ?_)
        refine jrun_r (pc := 45) (jRunV hX s_X4_46 (ci := 4) (T := TX4) (N := 18) (As := [ji v5]) (rest := []) rfl (by decide) (C_X4_levelAt Y hz0 t0 ht0 v5 I6 L0 x11 e12) ht0 rfl rfl ⟨by decide, by decide⟩ ⟨Nat.le_of_ble_eq_true rfl, Nat.le_of_ble_eq_true rfl⟩ (Nat.le_of_ble_eq_true rfl) dX4_putValue_45) ?_
        have t13 := T_X4_levelAt t0 ht0 v5 I6 e12
        refine J_astore (pc := 48) hX (lo' := [(5, jr x11), (0, jr t0), (1, ji p0), (2, ji p1), (4, ji v5)]) (by decide) rfl dX4_putValue_48 ?_
        refine J_aload (pc := 50) hX 0 rfl dX4_putValue_50 ?_
        refine J_join (fun (k15 : jI → Option (jI)) => ∀ (I14 : jI), J Y Z 6 Qf (k15 I14) 68 [(0, jr t0), (1, ji p0), (2, ji p1), (4, ji v5)] [] 0 0 NC shC rfC I14 L0) ?_ (fun k15 hk15 => ?_)
        · intro I14
          try dsimp only
          refine J_iinc (pc := 68) hX (v := (v5 + (1 : Int32))) (lo' := [(4, ji (v5 + (1 : Int32))), (0, jr t0), (1, ji p0), (2, ji p1)]) 3 rfl (by rfl) (by decide) rfl dX4_putValue_68 ?_
          refine J_goto (pc := 71) hX (tgt := 33) (by decide) dX4_putValue_71 ?_
          refine J_sub [1, 2, 3, 0] rfl ?_
          exact hg7 (v5 + (1 : Int32)) I14
        refine J_ifnull (pc := 52) hX (tgt := 68) (by decide) dX4_putValue_52 (fun h16 => ?_) (fun h16 => ?_)
        · refine J_sub [1, 2, 3, 4] rfl ?_
          exact hk15 I6
        · refine J_aload (pc := 55) hX 0 rfl dX4_putValue_55 ?_
          refine J_aload (pc := 57) hX 0 rfl dX4_putValue_57 ?_
          refine J_iload_n (pc := 59) hX 2 rfl dX4_putValue_59 ?_
          refine J_call1 (fun y17 e18 => ?_)
          refine jrun_i (pc := 60) (jRunV hX s_X4_135 (ci := 2) (T := TX2) (N := 19) (As := [ji p0]) (rest := [jr x11]) rfl (by decide) (C_X2_slotOf Y hz0 x11 (t13.resolve_left h16) p0 I6 L0 y17 e18) (t13.resolve_left h16) rfl rfl ⟨by decide, by decide⟩ ⟨Nat.le_of_ble_eq_true rfl, Nat.le_of_ble_eq_true rfl⟩ (Nat.le_of_ble_eq_true rfl) dX4_putValue_60) ?_
          refine J_iload_n (pc := 63) hX 3 rfl dX4_putValue_63 ?_
          refine J_iconst (pc := 64) hX (v := (0 : Int32)) (by decide) dX4_putValue_64 ?_
          refine J_call1 (fun I19 e20 => ?_)
          refine jrun_v (pc := 65) (jRunV hX s_X4_162 (ci := 2) (T := TX2) (N := 19) (As := [ji y17, ji p1, ji (0 : Int32)]) (rest := []) rfl (by decide) (C_X2_change Y hz0 x11 (t13.resolve_left h16) y17 p1 (0 : Int32) I6 L0 I19 e20) (t13.resolve_left h16) rfl rfl ⟨by decide, by decide⟩ ⟨Nat.le_of_ble_eq_true rfl, Nat.le_of_ble_eq_true rfl⟩ (Nat.le_of_ble_eq_true rfl) dX4_putValue_65) ?_
          refine J_sub [1, 2, 3, 4] rfl ?_
          exact hk15 I19
    refine J_sub [1, 2, 3, 0] rfl ?_
    exact lhg7 1000 (1 : Int32) I0
  refine J_ifnull (pc := 7) hX (tgt := 30) (by decide) dX4_putValue_7 (fun h21 => ?_) (fun h21 => ?_)
  · refine J_sub [1, 2, 3] rfl ?_
    exact hk4
  · refine J_aload_n (pc := 10) hX 1 rfl dX4_putValue_10 ?_
    refine g_X4_63 (pc := 11) hX ht0 dX4_putValue_11 ?_
    refine J_iconst (pc := 14) hX (v := (1 : Int32)) (by decide) dX4_putValue_14 ?_
    refine J_icmp_eq (pc := 15) hX (tgt := 30) (by decide) dX4_putValue_15 (fun h22 => ?_) (fun h22 => ?_)
    · refine J_sub [1, 2, 3] rfl ?_
      exact hk4
    · refine J_aload_n (pc := 18) hX 0 rfl dX4_putValue_18 ?_
      refine J_aload_n (pc := 19) hX 0 rfl dX4_putValue_19 ?_
      refine J_iload_n (pc := 20) hX 2 rfl dX4_putValue_20 ?_
      refine J_call1 (fun y23 e24 => ?_)
      refine jrun_i (pc := 21) (jRunV hX s_X4_135 (ci := 2) (T := TX2) (N := 19) (As := [ji p0]) (rest := [jr x1]) rfl (by decide) (C_X2_slotOf Y hz0 x1 (t3.resolve_left h21) p0 I0 L0 y23 e24) (t3.resolve_left h21) rfl rfl ⟨by decide, by decide⟩ ⟨Nat.le_of_ble_eq_true rfl, Nat.le_of_ble_eq_true rfl⟩ (Nat.le_of_ble_eq_true rfl) dX4_putValue_21) ?_
      refine J_iload_n (pc := 24) hX 3 rfl dX4_putValue_24 ?_
      refine J_iconst (pc := 25) hX (v := (1 : Int32)) (by decide) dX4_putValue_25 ?_
      refine J_call1 (fun I25 e26 => ?_)
      refine jrun_v (pc := 26) (jRunV hX s_X4_162 (ci := 2) (T := TX2) (N := 19) (As := [ji y23, ji p1, ji (1 : Int32)]) (rest := []) rfl (by decide) (C_X2_change Y hz0 x1 (t3.resolve_left h21) y23 p1 (1 : Int32) I0 L0 I25 e26) (t3.resolve_left h21) rfl rfl ⟨by decide, by decide⟩ ⟨Nat.le_of_ble_eq_true rfl, Nat.le_of_ble_eq_true rfl⟩ (Nat.le_of_ble_eq_true rfl) dX4_putValue_26) ?_
      exact J_vret (pc := 29) hX (hQ _) dX4_putValue_29
theorem C_X4_putValue (Y : jY) (hz0 : Y.zf = false) (t0 : Nat) (ht0 : shC t0 = 5) (p0 : Int32) (p1 : Int32) (I0 : jI) (L0 : jL) (I1 : jI) (h : X4_putValue t0 p0 p1 I0 = some I1) : jMet Y yX4_putValue cX4_putValue 6 none 2 103 0 0 [jr t0, ji p0, ji p1] NC shC rfC I0 L0 none NC shC rfC I1 L0 :=
  jmet_of _ _ h (fun Z r => jQ Y Z 0 0 none NC shC rfC r L0) (fun _ => rfl) (by decide) (Nat.le_of_ble_eq_true rfl) (fun Z hX => W_X4_putValue hz0 t0 ht0 p0 p1 I0 L0 hX (fun _ => rfl))
def X4_runOn (t0 : Nat) (p0 : Int32) (I0 : jI) : Option (Int32 × jI) :=
jlet (if (I0 t0 8) ≤ 0 then (1 : Int32) else (if p0 = ((I0 t0 9) + (1 : Int32)) then ((I0 t0 8) + (1 : Int32)) else (1 : Int32))) (fun (y3 : Int32) =>
jlet (jup I0 t0 8 y3) (fun (I4 : jI) =>
jlet (jup I4 t0 9 p0) (fun (I5 : jI) =>
jlet (
some ((-1 : Int32), I5)) (fun (k6 : Option (Int32 × jI)) =>
if (I5 t0 8) < (2 : Int32) then (
k6)
else (
if (I5 t0 1) = 0 then (
k6)
else (
some ((jmin (p0 + (I5 t0 6)) (63 : Int32)), I5)))))))
set_option maxRecDepth 20000 in
set_option maxHeartbeats 4000000 in
theorem W_X4_runOn {Y : jY} {Z : jZ} {Qf : Int32 × jI → State → Prop} (hz0 : Y.zf = false) (t0 : Nat) (ht0 : shC t0 = 5) (p0 : Int32) (I0 : jI) (L0 : jL) (hX : jOK Y Z RX4 cX4_runOn 2 "runOn" (some .int) 1 80 0 0) (hQ : ∀ r : Int32 × jI, Qf r = jQ Y Z 0 0 (some (ji r.1)) NC shC rfC r.2 L0) : J Y Z 2 Qf (X4_runOn t0 p0 I0) 0 [(0, jr t0), (1, ji p0)] [] 0 0 NC shC rfC I0 L0 := by
  unfold X4_runOn
  refine J_aload_n (pc := 0) hX 0 rfl dX4_runOn_0 ?_
  refine J_aload_n (pc := 1) hX 0 rfl dX4_runOn_1 ?_
  refine g_X4_72 (pc := 2) hX ht0 dX4_runOn_2 ?_
  refine J_vjoin (fun kq (y3 : Int32) => J Y Z 2 Qf (kq) 28 [(0, jr t0), (1, ji p0)] [ji y3, jr t0] 0 0 NC shC rfC I0 L0) (fun y3 => ?_) (fun hj => ?_)
  · try dsimp only
    refine p_X4_72 (pc := 28) hX ht0 dX4_runOn_28 (fun I4 => ?_)
    refine J_aload_n (pc := 31) hX 0 rfl dX4_runOn_31 ?_
    refine J_iload_n (pc := 32) hX 1 rfl dX4_runOn_32 ?_
    refine p_X4_25 (pc := 33) hX ht0 dX4_runOn_33 (fun I5 => ?_)
    refine J_aload_n (pc := 36) hX 0 rfl dX4_runOn_36 ?_
    refine g_X4_72 (pc := 37) hX ht0 dX4_runOn_37 ?_
    refine J_iconst (pc := 40) hX (v := (2 : Int32)) (by decide) dX4_runOn_40 ?_
    refine J_join (fun (k6 : Option (Int32 × jI)) => J Y Z 2 Qf (k6) 51 [] [] 0 0 NC shC rfC I5 L0) ?_ (fun k6 hk6 => ?_)
    · refine J_iconst (pc := 51) hX (v := (-1 : Int32)) (by decide) dX4_runOn_51 ?_
      refine J_goto (pc := 52) hX (tgt := 66) (by decide) dX4_runOn_52 ?_
      exact J_iret (pc := 66) hX (hQ _) dX4_runOn_66
    refine J_icmp_lt (pc := 41) hX (tgt := 51) (by decide) dX4_runOn_41 (fun h7 => ?_) (fun h7 => ?_)
    · refine J_sub [] rfl ?_
      exact hk6
    · refine J_aload_n (pc := 44) hX 0 rfl dX4_runOn_44 ?_
      refine g_X4_43 (pc := 45) hX ht0 dX4_runOn_45 ?_
      refine J_if_ne (pc := 48) hX (tgt := 55) (by decide) dX4_runOn_48 (fun h8 => ?_) (fun h8 => ?_)
      · refine J_iload_n (pc := 55) hX 1 rfl dX4_runOn_55 ?_
        refine J_aload_n (pc := 56) hX 0 rfl dX4_runOn_56 ?_
        refine g_X4_66 (pc := 57) hX ht0 dX4_runOn_57 ?_
        refine J_iadd (pc := 60) hX dX4_runOn_60 ?_
        refine J_bipush (pc := 61) hX (v := (63 : Int32)) (by decide) dX4_runOn_61 ?_
        refine J_mmin (pc := 63) hX m_X4_156 ⟨by decide, by decide⟩ ⟨Nat.le_of_ble_eq_true rfl, Nat.le_of_ble_eq_true rfl⟩ (Nat.le_of_ble_eq_true rfl) dX4_runOn_63 ?_
        exact J_iret (pc := 66) hX (hQ _) dX4_runOn_66
      · refine J_sub [] rfl ?_
        exact hk6
  try dsimp only at hj
  refine J_if_leV (pc := 5) hX (tgt := 27) (by decide) dX4_runOn_5 (fun h2 => ?_) (fun h2 => ?_)
  · refine J_iconst (pc := 27) hX (v := (1 : Int32)) (by decide) dX4_runOn_27 ?_
    exact hj _
  · refine J_iload_n (pc := 8) hX 1 rfl dX4_runOn_8 ?_
    refine J_aload_n (pc := 9) hX 0 rfl dX4_runOn_9 ?_
    refine g_X4_25 (pc := 10) hX ht0 dX4_runOn_10 ?_
    refine J_iconst (pc := 13) hX (v := (1 : Int32)) (by decide) dX4_runOn_13 ?_
    refine J_iadd (pc := 14) hX dX4_runOn_14 ?_
    refine J_icmp_neV (pc := 15) hX (tgt := 27) (by decide) dX4_runOn_15 (fun h1 => ?_) (fun h1 => ?_)
    · refine J_iconst (pc := 27) hX (v := (1 : Int32)) (by decide) dX4_runOn_27 ?_
      exact hj _
    · refine J_aload_n (pc := 18) hX 0 rfl dX4_runOn_18 ?_
      refine g_X4_72 (pc := 19) hX ht0 dX4_runOn_19 ?_
      refine J_iconst (pc := 22) hX (v := (1 : Int32)) (by decide) dX4_runOn_22 ?_
      refine J_iadd (pc := 23) hX dX4_runOn_23 ?_
      refine J_goto (pc := 24) hX (tgt := 28) (by decide) dX4_runOn_24 ?_
      exact hj _
theorem C_X4_runOn (Y : jY) (hz0 : Y.zf = false) (t0 : Nat) (ht0 : shC t0 = 5) (p0 : Int32) (I0 : jI) (L0 : jL) (r : Int32) (I1 : jI) (h : X4_runOn t0 p0 I0 = some (r, I1)) : jMet Y yX4_runOn cX4_runOn 2 (some .int) 1 80 0 0 [jr t0, ji p0] NC shC rfC I0 L0 (some (ji r)) NC shC rfC I1 L0 :=
  jmet_of _ _ h (fun Z r => jQ Y Z 0 0 (some (ji r.1)) NC shC rfC r.2 L0) (fun _ => rfl) (by decide) (Nat.le_of_ble_eq_true rfl) (fun Z hX => W_X4_runOn hz0 t0 ht0 p0 I0 L0 hX (fun _ => rfl))
def X4_levelsWith_F1 (t0 : Nat) (p0 : Int32) (I0 : jI) (g3 : Int32 → Int32 → Option (Int32)) : Int32 → Int32 → Option (Int32) := fun (v1 : Int32) (v2 : Int32) =>
if (I0 t0 1) < v2 then (
some v1)
else (
(X4_levelAt t0 v2 I0).bind (fun (x5 : Nat) =>
jlet (fun (v8 : Int32) =>
g3 v8 (v2 + (1 : Int32))) (fun (k9 : Int32 → Option (Int32)) =>
if x5 = 0 then (
k9 v1)
else (
(X2_slotOf x5 p0 I0).bind (fun (y11 : Int32) =>
if y11 = (-1 : Int32) then (
k9 v1)
else (
jlet ((v1 ||| ((1 : Int32) <<< ((v2 - (1 : Int32)) &&& 31)))) (fun (y14 : Int32) =>
k9 y14)))))))
def X4_levelsWith (t0 : Nat) (p0 : Int32) (I0 : jI) : Option (Int32) :=
jfx (X4_levelsWith_F1 t0 p0 I0) (fun _ _ => none) 1000 (0 : Int32) (1 : Int32)
set_option maxRecDepth 20000 in
set_option maxHeartbeats 4000000 in
theorem W_X4_levelsWith {Y : jY} {Z : jZ} {Qf : Int32 → State → Prop} (hz0 : Y.zf = false) (t0 : Nat) (ht0 : shC t0 = 5) (p0 : Int32) (I0 : jI) (L0 : jL) (hX : jOK Y Z RX4 cX4_levelsWith 5 "levelsWith" (some .int) 2 101 0 0) (hQ : ∀ r : Int32, Qf r = jQ Y Z 0 0 (some (ji r)) NC shC rfC I0 L0) : J Y Z 5 Qf (X4_levelsWith t0 p0 I0) 0 [(0, jr t0), (1, ji p0)] [] 0 0 NC shC rfC I0 L0 := by
  unfold X4_levelsWith
  refine J_iconst (pc := 0) hX (v := (0 : Int32)) (by decide) dX4_levelsWith_0 ?_
  refine J_istore_n (pc := 1) hX (lo' := [(2, ji (0 : Int32)), (0, jr t0), (1, ji p0)]) (by decide) rfl dX4_levelsWith_1 ?_
  refine J_iconst (pc := 2) hX (v := (1 : Int32)) (by decide) dX4_levelsWith_2 ?_
  refine J_istore_n (pc := 3) hX (lo' := [(3, ji (1 : Int32)), (2, ji (0 : Int32)), (0, jr t0), (1, ji p0)]) (by decide) rfl dX4_levelsWith_3 ?_
  have lhg3 : ∀ mq : Nat, ∀ (v1 : Int32) (v2 : Int32), J Y Z 5 Qf (jfx (X4_levelsWith_F1 t0 p0 I0) (fun _ _ => none) mq v1 v2) 4 [(0, jr t0), (1, ji p0), (2, ji v1), (3, ji v2)] [] 0 0 NC shC rfC I0 L0 := by
    intro mq
    refine jfx_J (fun (_ : Nat) (g3 : Int32 → Int32 → Option (Int32)) => ∀ (v1 : Int32) (v2 : Int32), J Y Z 5 Qf (g3 v1 v2) 4 [(0, jr t0), (1, ji p0), (2, ji v1), (3, ji v2)] [] 0 0 NC shC rfC I0 L0) ?_ (fun _ g3 hg3 => ?_) mq
    · intro v1 v2
      exact J_none
    intro v1 v2
    unfold X4_levelsWith_F1
    try dsimp only
    refine J_iload_n (pc := 4) hX 3 rfl dX4_levelsWith_4 ?_
    refine J_aload_n (pc := 5) hX 0 rfl dX4_levelsWith_5 ?_
    refine g_X4_43 (pc := 6) hX ht0 dX4_levelsWith_6 ?_
    refine J_icmp_gt (pc := 9) hX (tgt := 48) (by decide) dX4_levelsWith_9 (fun h4 => ?_) (fun h4 => ?_)
    · refine J_iload_n (pc := 48) hX 2 rfl dX4_levelsWith_48 ?_
      exact J_iret (pc := 49) hX (hQ _) dX4_levelsWith_49
    · refine J_aload_n (pc := 12) hX 0 rfl dX4_levelsWith_12 ?_
      refine J_iload_n (pc := 13) hX 3 rfl dX4_levelsWith_13 ?_
      refine J_call1 (fun x5 e6 => ?_)
      refine jrun_r (pc := 14) (jRunV hX s_X4_46 (ci := 4) (T := TX4) (N := 18) (As := [ji v2]) (rest := []) rfl (by decide) (C_X4_levelAt Y hz0 t0 ht0 v2 I0 L0 x5 e6) ht0 rfl rfl ⟨by decide, by decide⟩ ⟨Nat.le_of_ble_eq_true rfl, Nat.le_of_ble_eq_true rfl⟩ (Nat.le_of_ble_eq_true rfl) dX4_levelsWith_14) ?_
      have t7 := T_X4_levelAt t0 ht0 v2 I0 e6
      refine J_astore (pc := 17) hX (lo' := [(4, jr x5), (0, jr t0), (1, ji p0), (2, ji v1), (3, ji v2)]) (by decide) rfl dX4_levelsWith_17 ?_
      refine J_aload (pc := 19) hX 0 rfl dX4_levelsWith_19 ?_
      refine J_join (fun (k9 : Int32 → Option (Int32)) => ∀ (v8 : Int32), J Y Z 5 Qf (k9 v8) 42 [(0, jr t0), (1, ji p0), (2, ji v8), (3, ji v2)] [] 0 0 NC shC rfC I0 L0) ?_ (fun k9 hk9 => ?_)
      · intro v8
        try dsimp only
        refine J_iinc (pc := 42) hX (v := (v2 + (1 : Int32))) (lo' := [(3, ji (v2 + (1 : Int32))), (0, jr t0), (1, ji p0), (2, ji v8)]) 3 rfl (by rfl) (by decide) rfl dX4_levelsWith_42 ?_
        refine J_goto (pc := 45) hX (tgt := 4) (by decide) dX4_levelsWith_45 ?_
        refine J_sub [1, 2, 3, 0] rfl ?_
        exact hg3 v8 (v2 + (1 : Int32))
      refine J_ifnull (pc := 21) hX (tgt := 42) (by decide) dX4_levelsWith_21 (fun h10 => ?_) (fun h10 => ?_)
      · refine J_sub [1, 2, 3, 4] rfl ?_
        exact hk9 v1
      · refine J_aload (pc := 24) hX 0 rfl dX4_levelsWith_24 ?_
        refine J_iload_n (pc := 26) hX 2 rfl dX4_levelsWith_26 ?_
        refine J_call1 (fun y11 e12 => ?_)
        refine jrun_i (pc := 27) (jRunV hX s_X4_135 (ci := 2) (T := TX2) (N := 19) (As := [ji p0]) (rest := []) rfl (by decide) (C_X2_slotOf Y hz0 x5 (t7.resolve_left h10) p0 I0 L0 y11 e12) (t7.resolve_left h10) rfl rfl ⟨by decide, by decide⟩ ⟨Nat.le_of_ble_eq_true rfl, Nat.le_of_ble_eq_true rfl⟩ (Nat.le_of_ble_eq_true rfl) dX4_levelsWith_27) ?_
        refine J_iconst (pc := 30) hX (v := (-1 : Int32)) (by decide) dX4_levelsWith_30 ?_
        refine J_icmp_eq (pc := 31) hX (tgt := 42) (by decide) dX4_levelsWith_31 (fun h13 => ?_) (fun h13 => ?_)
        · refine J_sub [1, 2, 3, 4] rfl ?_
          exact hk9 v1
        · refine J_iload_n (pc := 34) hX 3 rfl dX4_levelsWith_34 ?_
          refine J_iconst (pc := 35) hX (v := (1 : Int32)) (by decide) dX4_levelsWith_35 ?_
          refine J_iload_n (pc := 36) hX 4 rfl dX4_levelsWith_36 ?_
          refine J_iconst (pc := 37) hX (v := (1 : Int32)) (by decide) dX4_levelsWith_37 ?_
          refine J_isub (pc := 38) hX dX4_levelsWith_38 ?_
          refine J_ishl (pc := 39) hX dX4_levelsWith_39 ?_
          refine J_ior (pc := 40) hX dX4_levelsWith_40 ?_
          refine J_leti (fun y14 => ?_)
          refine J_istore_n (pc := 41) hX (lo' := [(2, ji y14), (4, jr x5), (0, jr t0), (1, ji p0), (3, ji v2)]) (by decide) rfl dX4_levelsWith_41 ?_
          refine J_sub [2, 3, 0, 4] rfl ?_
          exact hk9 y14
  refine J_sub [2, 3, 1, 0] rfl ?_
  exact lhg3 1000 (0 : Int32) (1 : Int32)
theorem C_X4_levelsWith (Y : jY) (hz0 : Y.zf = false) (t0 : Nat) (ht0 : shC t0 = 5) (p0 : Int32) (I0 : jI) (L0 : jL) (r : Int32) (h : X4_levelsWith t0 p0 I0 = some r) : jMet Y yX4_levelsWith cX4_levelsWith 5 (some .int) 2 101 0 0 [jr t0, ji p0] NC shC rfC I0 L0 (some (ji r)) NC shC rfC I0 L0 :=
  jmet_of _ _ h (fun Z r => jQ Y Z 0 0 (some (ji r)) NC shC rfC I0 L0) (fun _ => rfl) (by decide) (Nat.le_of_ble_eq_true rfl) (fun Z hX => W_X4_levelsWith hz0 t0 ht0 p0 I0 L0 hX (fun _ => rfl))
def X4_access_F1 (t0 : Nat) (v14 : Int32) (k19 : jI → Option (Int32 × jI)) (g25 : Int32 → jI → Option (Int32 × jI)) : Int32 → jI → Option (Int32 × jI) := fun (v23 : Int32) (I24 : jI) =>
if v14 < v23 then (
k19 I24)
else (
(X4_levelsWith t0 v23 I24).bind (fun (y27 : Int32) =>
jlet (fun (I29 : jI) =>
g25 (v23 + (1 : Int32)) I29) (fun (k30 : jI → Option (Int32 × jI)) =>
if y27 = 0 then (
(X4_inMemory t0 v23 I24).bind (fun (y32 : Int32) =>
(X4_placeInto 10 t0 (I24 t0 1) v23 y32 (0 : Int32) I24).bind (fun (I34 : jI) =>
jlet (jup I34 t0 10 ((I34 t0 10) + (1 : Int32))) (fun (I36 : jI) =>
k30 I36))))
else (
k30 I24))))
def X4_access_F2 (t0 : Nat) (p0 : Int32) (y5 : Int32) (k11 : jI → Option (Int32 × jI)) (g46 : Int32 → jI → Option (Int32 × jI)) : Int32 → jI → Option (Int32 × jI) := fun (v44 : Int32) (I45 : jI) =>
if v44 < (1 : Int32) then (
k11 I45)
else (
(X4_placeInto 10 t0 v44 p0 (I45 t0 17) y5 I45).bind (fun (I48 : jI) =>
g46 (v44 + (-1 : Int32)) I48))
def X4_access (t0 : Nat) (p0 : Int32) (p1 : Int32) (p2 : Int32) (I0 : jI) : Option (Int32 × jI) :=
jlet (jup I0 t0 7 ((I0 t0 7) + (1 : Int32))) (fun (I1 : jI) =>
jb2 (X4_lookFor t0 p0 I1) (fun (y2 : Int32) (I3 : jI) =>
jb2 (X4_leaveToComeNear t0 p0 I3) (fun (y5 : Int32) (I6 : jI) =>
(X4_farthestToHold t0 I6).bind (fun (y8 : Int32) =>
jlet (fun (I10 : jI) =>
jlet (fun (I12 : jI) =>
jlet (fun (v14 : Int32) (I15 : jI) =>
jlet ((p0 + (1 : Int32))) (fun (y17 : Int32) =>
jlet (fun (I18 : jI) =>
jlet (jup I18 t0 12 ((I18 t0 12) + y2)) (fun (I20 : jI) =>
(X1_note (rfC t0 15) (I20 t0 7) p0 p1 y2 (I20 t0 16) I20).bind (fun (I21 : jI) =>
some (y2, I21)))) (fun (k19 : jI → Option (Int32 × jI)) =>
jfx (X4_access_F1 t0 v14 k19) (fun _ _ => none) 1000 y17 I15))) (fun (k16 : Int32 → jI → Option (Int32 × jI)) =>
if (I12 t0 16) = 0 then (
jb2 (X4_runOn t0 p0 I12) (fun (y38 : Int32) (I39 : jI) =>
k16 y38 I39))
else (
k16 (-1 : Int32) I12))) (fun (k13 : jI → Option (Int32 × jI)) =>
if p1 = 0 then (
k13 I10)
else (
(X4_putValue t0 p0 p2 I10).bind (fun (I42 : jI) =>
k13 I42)))) (fun (k11 : jI → Option (Int32 × jI)) =>
jfx (X4_access_F2 t0 p0 y5 k11) (fun _ _ => none) 1000 y8 I6)))))
set_option maxRecDepth 20000 in
set_option maxHeartbeats 4000000 in
theorem W_X4_access {Y : jY} {Z : jZ} {Qf : Int32 × jI → State → Prop} (hz0 : Y.zf = false) (t0 : Nat) (ht0 : shC t0 = 5) (p0 : Int32) (p1 : Int32) (p2 : Int32) (I0 : jI) (L0 : jL) (hX : jOK Y Z RX4 cX4_access 8 "access" (some .int) 45 2181 0 0) (hQ : ∀ r : Int32 × jI, Qf r = jQ Y Z 0 0 (some (ji r.1)) NC shC rfC r.2 L0) : J Y Z 8 Qf (X4_access t0 p0 p1 p2 I0) 0 [(0, jr t0), (1, ji p0), (2, ji p1), (3, ji p2)] [] 0 0 NC shC rfC I0 L0 := by
  unfold X4_access
  refine J_aload_n (pc := 0) hX 0 rfl dX4_access_0 ?_
  refine J_dup (pc := 1) hX rfl dX4_access_1 ?_
  refine g_X4_69 (pc := 2) hX ht0 dX4_access_2 ?_
  refine J_iconst (pc := 5) hX (v := (1 : Int32)) (by decide) dX4_access_5 ?_
  refine J_iadd (pc := 6) hX dX4_access_6 ?_
  refine p_X4_69 (pc := 7) hX ht0 dX4_access_7 (fun I1 => ?_)
  refine J_aload_n (pc := 10) hX 0 rfl dX4_access_10 ?_
  refine J_iload_n (pc := 11) hX 1 rfl dX4_access_11 ?_
  refine J_call2 (fun y2 I3 e4 => ?_)
  refine jrun_i (pc := 12) (jRunV hX s_X4_93 (ci := 4) (T := TX4) (N := 18) (As := [ji p0]) (rest := []) rfl (by decide) (C_X4_lookFor Y hz0 t0 ht0 p0 I1 L0 y2 I3 e4) ht0 rfl rfl ⟨by decide, by decide⟩ ⟨Nat.le_of_ble_eq_true rfl, Nat.le_of_ble_eq_true rfl⟩ (Nat.le_of_ble_eq_true rfl) dX4_access_12) ?_
  refine J_istore (pc := 15) hX (lo' := [(4, ji y2), (0, jr t0), (1, ji p0), (2, ji p1), (3, ji p2)]) (by decide) rfl dX4_access_15 ?_
  refine J_aload_n (pc := 17) hX 1 rfl dX4_access_17 ?_
  refine J_iload_n (pc := 18) hX 2 rfl dX4_access_18 ?_
  refine J_call2 (fun y5 I6 e7 => ?_)
  refine jrun_i (pc := 19) (jRunV hX s_X4_97 (ci := 4) (T := TX4) (N := 18) (As := [ji p0]) (rest := []) rfl (by decide) (C_X4_leaveToComeNear Y hz0 t0 ht0 p0 I3 L0 y5 I6 e7) ht0 rfl rfl ⟨by decide, by decide⟩ ⟨Nat.le_of_ble_eq_true rfl, Nat.le_of_ble_eq_true rfl⟩ (Nat.le_of_ble_eq_true rfl) dX4_access_19) ?_
  refine J_istore (pc := 22) hX (lo' := [(5, ji y5), (4, ji y2), (0, jr t0), (1, ji p0), (2, ji p1), (3, ji p2)]) (by decide) rfl dX4_access_22 ?_
  refine J_aload_n (pc := 24) hX 2 rfl dX4_access_24 ?_
  refine J_call1 (fun y8 e9 => ?_)
  refine jrun_i (pc := 25) (jRunV hX s_X4_101 (ci := 4) (T := TX4) (N := 18) (As := []) (rest := []) rfl (by decide) (C_X4_farthestToHold Y hz0 t0 ht0 I6 L0 y8 e9) ht0 rfl rfl ⟨by decide, by decide⟩ ⟨Nat.le_of_ble_eq_true rfl, Nat.le_of_ble_eq_true rfl⟩ (Nat.le_of_ble_eq_true rfl) dX4_access_25) ?_
  refine J_istore (pc := 28) hX (lo' := [(6, ji y8), (5, ji y5), (4, ji y2), (0, jr t0), (1, ji p0), (2, ji p1), (3, ji p2)]) (by decide) rfl dX4_access_28 ?_
  refine J_join (fun (k11 : jI → Option (Int32 × jI)) => ∀ (I10 : jI), J Y Z 8 Qf (k11 I10) 55 [(0, jr t0), (1, ji p0), (2, ji p1), (3, ji p2), (4, ji y2)] [] 0 0 NC shC rfC I10 L0) ?_ (fun k11 hk11 => ?_)
  · intro I10
    try dsimp only
    refine J_iload_n (pc := 55) hX 2 rfl dX4_access_55 ?_
    refine J_join (fun (k13 : jI → Option (Int32 × jI)) => ∀ (I12 : jI), J Y Z 8 Qf (k13 I12) 65 [(0, jr t0), (1, ji p0), (2, ji p1), (4, ji y2)] [] 0 0 NC shC rfC I12 L0) ?_ (fun k13 hk13 => ?_)
    · intro I12
      try dsimp only
      refine J_aload_n (pc := 65) hX 0 rfl dX4_access_65 ?_
      refine g_X4_116 (pc := 66) hX ht0 dX4_access_66 ?_
      refine J_join (fun (k16 : Int32 → jI → Option (Int32 × jI)) => ∀ (v14 : Int32) (I15 : jI), J Y Z 8 Qf (k16 v14 I15) 81 [(0, jr t0), (1, ji p0), (2, ji p1), (4, ji y2)] [ji v14] 0 0 NC shC rfC I15 L0) ?_ (fun k16 hk16 => ?_)
      · intro v14 I15
        try dsimp only
        refine J_istore (pc := 81) hX (lo' := [(6, ji v14), (0, jr t0), (1, ji p0), (2, ji p1), (4, ji y2)]) (by decide) rfl dX4_access_81 ?_
        refine J_iload_n (pc := 83) hX 2 rfl dX4_access_83 ?_
        refine J_iconst (pc := 84) hX (v := (1 : Int32)) (by decide) dX4_access_84 ?_
        refine J_iadd (pc := 85) hX dX4_access_85 ?_
        refine J_leti (fun y17 => ?_)
        refine J_istore (pc := 86) hX (lo' := [(7, ji y17), (6, ji v14), (0, jr t0), (1, ji p0), (2, ji p1), (4, ji y2)]) (by decide) rfl dX4_access_86 ?_
        refine J_join (fun (k19 : jI → Option (Int32 × jI)) => ∀ (I18 : jI), J Y Z 8 Qf (k19 I18) 137 [(0, jr t0), (1, ji p0), (2, ji p1), (4, ji y2)] [] 0 0 NC shC rfC I18 L0) ?_ (fun k19 hk19 => ?_)
        · intro I18
          try dsimp only
          refine J_aload_n (pc := 137) hX 0 rfl dX4_access_137 ?_
          refine J_dup (pc := 138) hX rfl dX4_access_138 ?_
          refine g_X4_81 (pc := 139) hX ht0 dX4_access_139 ?_
          refine J_iload (pc := 142) hX 3 rfl dX4_access_142 ?_
          refine J_iadd (pc := 144) hX dX4_access_144 ?_
          refine p_X4_81 (pc := 145) hX ht0 dX4_access_145 (fun I20 => ?_)
          refine J_aload_n (pc := 148) hX 0 rfl dX4_access_148 ?_
          refine g_X4_38 (pc := 149) hX ht0 dX4_access_149 ?_
          refine J_aload_n (pc := 152) hX 0 rfl dX4_access_152 ?_
          refine g_X4_69 (pc := 153) hX ht0 dX4_access_153 ?_
          refine J_iload_n (pc := 156) hX 1 rfl dX4_access_156 ?_
          refine J_iload_n (pc := 157) hX 2 rfl dX4_access_157 ?_
          refine J_iload (pc := 158) hX 3 rfl dX4_access_158 ?_
          refine J_aload_n (pc := 160) hX 0 rfl dX4_access_160 ?_
          refine g_X4_116 (pc := 161) hX ht0 dX4_access_161 ?_
          refine J_call1 (fun I21 e22 => ?_)
          refine jrun_v (pc := 164) (jRunV hX s_X4_128 (ci := 1) (T := TX1) (N := 5) (As := [ji (I20 t0 7), ji p0, ji p1, ji y2, ji (I20 t0 16)]) (rest := []) rfl (by decide) (C_X1_note Y hz0 (rfC t0 15) (fs_4_15 t0 ht0) (I20 t0 7) p0 p1 y2 (I20 t0 16) I20 L0 I21 e22) (fs_4_15 t0 ht0) rfl rfl ⟨by decide, by decide⟩ ⟨Nat.le_of_ble_eq_true rfl, Nat.le_of_ble_eq_true rfl⟩ (Nat.le_of_ble_eq_true rfl) dX4_access_164) ?_
          refine J_iload (pc := 167) hX 3 rfl dX4_access_167 ?_
          exact J_iret (pc := 169) hX (hQ _) dX4_access_169
        have lhg25 : ∀ mq : Nat, ∀ (v23 : Int32) (I24 : jI), J Y Z 8 Qf (jfx (X4_access_F1 t0 v14 k19) (fun _ _ => none) mq v23 I24) 88 [(0, jr t0), (1, ji p0), (2, ji p1), (4, ji y2), (6, ji v14), (7, ji v23)] [] 0 0 NC shC rfC I24 L0 := by
          intro mq
          refine jfx_J (fun (_ : Nat) (g25 : Int32 → jI → Option (Int32 × jI)) => ∀ (v23 : Int32) (I24 : jI), J Y Z 8 Qf (g25 v23 I24) 88 [(0, jr t0), (1, ji p0), (2, ji p1), (4, ji y2), (6, ji v14), (7, ji v23)] [] 0 0 NC shC rfC I24 L0) ?_ (fun _ g25 hg25 => ?_) mq
          · intro v23 I24
            exact J_none
          intro v23 I24
          unfold X4_access_F1
          try dsimp only
          refine J_iload (pc := 88) hX 5 rfl dX4_access_88 ?_
          refine J_iload (pc := 90) hX 4 rfl dX4_access_90 ?_
          refine J_icmp_gt (pc := 92) hX (tgt := 137) (by decide) dX4_access_92 (fun h26 => ?_) (fun h26 => ?_)
          · refine J_sub [0, 1, 2, 3] rfl ?_
            exact hk19 I24
          · refine J_aload_n (pc := 95) hX 0 rfl dX4_access_95 ?_
            refine J_iload (pc := 96) hX 5 rfl dX4_access_96 ?_
            refine J_call1 (fun y27 e28 => ?_)
            refine jrun_i (pc := 98) (jRunV hX s_X4_122 (ci := 4) (T := TX4) (N := 18) (As := [ji v23]) (rest := []) rfl (by decide) (C_X4_levelsWith Y hz0 t0 ht0 v23 I24 L0 y27 e28) ht0 rfl rfl ⟨by decide, by decide⟩ ⟨Nat.le_of_ble_eq_true rfl, Nat.le_of_ble_eq_true rfl⟩ (Nat.le_of_ble_eq_true rfl) dX4_access_98) ?_
            refine J_join (fun (k30 : jI → Option (Int32 × jI)) => ∀ (I29 : jI), J Y Z 8 Qf (k30 I29) 131 [(0, jr t0), (1, ji p0), (2, ji p1), (4, ji y2), (6, ji v14), (7, ji v23)] [] 0 0 NC shC rfC I29 L0) ?_ (fun k30 hk30 => ?_)
            · intro I29
              try dsimp only
              refine J_iinc (pc := 131) hX (v := (v23 + (1 : Int32))) (lo' := [(7, ji (v23 + (1 : Int32))), (0, jr t0), (1, ji p0), (2, ji p1), (4, ji y2), (6, ji v14)]) 5 rfl (by rfl) (by decide) rfl dX4_access_131 ?_
              refine J_goto (pc := 134) hX (tgt := 88) (by decide) dX4_access_134 ?_
              refine J_sub [1, 2, 3, 4, 5, 0] rfl ?_
              exact hg25 (v23 + (1 : Int32)) I29
            refine J_if_ne (pc := 101) hX (tgt := 131) (by decide) dX4_access_101 (fun h31 => ?_) (fun h31 => ?_)
            · exact hk30 I24
            · refine J_aload_n (pc := 104) hX 0 rfl dX4_access_104 ?_
              refine J_aload_n (pc := 105) hX 0 rfl dX4_access_105 ?_
              refine g_X4_43 (pc := 106) hX ht0 dX4_access_106 ?_
              refine J_iload (pc := 109) hX 5 rfl dX4_access_109 ?_
              refine J_aload_n (pc := 111) hX 0 rfl dX4_access_111 ?_
              refine J_iload (pc := 112) hX 5 rfl dX4_access_112 ?_
              refine J_call1 (fun y32 e33 => ?_)
              refine jrun_i (pc := 114) (jRunV hX s_X4_125 (ci := 4) (T := TX4) (N := 18) (As := [ji v23]) (rest := [ji v23, ji (I24 t0 1), jr t0]) rfl (by decide) (C_X4_inMemory Y hz0 t0 ht0 v23 I24 L0 y32 e33) ht0 rfl rfl ⟨by decide, by decide⟩ ⟨Nat.le_of_ble_eq_true rfl, Nat.le_of_ble_eq_true rfl⟩ (Nat.le_of_ble_eq_true rfl) dX4_access_114) ?_
              refine J_iconst (pc := 117) hX (v := (0 : Int32)) (by decide) dX4_access_117 ?_
              refine J_call1 (fun I34 e35 => ?_)
              refine jrun_v (pc := 118) (jRunS hX s_X4_108 (As := [jr t0, ji (I24 t0 1), ji v23, ji y32, ji (0 : Int32)]) (rest := []) (C_X4_placeInto Y hz0 10 t0 ht0 (I24 t0 1) v23 y32 (0 : Int32) I24 L0 I34 e35) rfl rfl ⟨by decide, by decide⟩ ⟨Nat.le_of_ble_eq_true rfl, Nat.le_of_ble_eq_true rfl⟩ (Nat.le_of_ble_eq_true rfl) dX4_access_118) ?_
              refine J_aload_n (pc := 121) hX 0 rfl dX4_access_121 ?_
              refine J_dup (pc := 122) hX rfl dX4_access_122 ?_
              refine g_X4_75 (pc := 123) hX ht0 dX4_access_123 ?_
              refine J_iconst (pc := 126) hX (v := (1 : Int32)) (by decide) dX4_access_126 ?_
              refine J_iadd (pc := 127) hX dX4_access_127 ?_
              refine p_X4_75 (pc := 128) hX ht0 dX4_access_128 (fun I36 => ?_)
              exact hk30 I36
        refine J_sub [2, 3, 4, 5, 1, 0] rfl ?_
        exact lhg25 1000 y17 I15
      refine J_if_ne (pc := 69) hX (tgt := 80) (by decide) dX4_access_69 (fun h37 => ?_) (fun h37 => ?_)
      · refine J_iconst (pc := 80) hX (v := (-1 : Int32)) (by decide) dX4_access_80 ?_
        exact hk16 (-1 : Int32) I12
      · refine J_aload_n (pc := 72) hX 0 rfl dX4_access_72 ?_
        refine J_iload_n (pc := 73) hX 1 rfl dX4_access_73 ?_
        refine J_call2 (fun y38 I39 e40 => ?_)
        refine jrun_i (pc := 74) (jRunV hX s_X4_119 (ci := 4) (T := TX4) (N := 18) (As := [ji p0]) (rest := []) rfl (by decide) (C_X4_runOn Y hz0 t0 ht0 p0 I12 L0 y38 I39 e40) ht0 rfl rfl ⟨by decide, by decide⟩ ⟨Nat.le_of_ble_eq_true rfl, Nat.le_of_ble_eq_true rfl⟩ (Nat.le_of_ble_eq_true rfl) dX4_access_74) ?_
        refine J_goto (pc := 77) hX (tgt := 81) (by decide) dX4_access_77 ?_
        exact hk16 y38 I39
    refine J_if_eq (pc := 56) hX (tgt := 65) (by decide) dX4_access_56 (fun h41 => ?_) (fun h41 => ?_)
    · refine J_sub [0, 1, 2, 4] rfl ?_
      exact hk13 I10
    · refine J_aload_n (pc := 59) hX 0 rfl dX4_access_59 ?_
      refine J_iload_n (pc := 60) hX 1 rfl dX4_access_60 ?_
      refine J_iload_n (pc := 61) hX 3 rfl dX4_access_61 ?_
      refine J_call1 (fun I42 e43 => ?_)
      refine jrun_v (pc := 62) (jRunV hX s_X4_112 (ci := 4) (T := TX4) (N := 18) (As := [ji p0, ji p2]) (rest := []) rfl (by decide) (C_X4_putValue Y hz0 t0 ht0 p0 p2 I10 L0 I42 e43) ht0 rfl rfl ⟨by decide, by decide⟩ ⟨Nat.le_of_ble_eq_true rfl, Nat.le_of_ble_eq_true rfl⟩ (Nat.le_of_ble_eq_true rfl) dX4_access_62) ?_
      refine J_sub [0, 1, 2, 4] rfl ?_
      exact hk13 I42
  have lhg46 : ∀ mq : Nat, ∀ (v44 : Int32) (I45 : jI), J Y Z 8 Qf (jfx (X4_access_F2 t0 p0 y5 k11) (fun _ _ => none) mq v44 I45) 30 [(0, jr t0), (1, ji p0), (2, ji p1), (3, ji p2), (4, ji y2), (5, ji y5), (6, ji v44)] [] 0 0 NC shC rfC I45 L0 := by
    intro mq
    refine jfx_J (fun (_ : Nat) (g46 : Int32 → jI → Option (Int32 × jI)) => ∀ (v44 : Int32) (I45 : jI), J Y Z 8 Qf (g46 v44 I45) 30 [(0, jr t0), (1, ji p0), (2, ji p1), (3, ji p2), (4, ji y2), (5, ji y5), (6, ji v44)] [] 0 0 NC shC rfC I45 L0) ?_ (fun _ g46 hg46 => ?_) mq
    · intro v44 I45
      exact J_none
    intro v44 I45
    unfold X4_access_F2
    try dsimp only
    refine J_iload (pc := 30) hX 6 rfl dX4_access_30 ?_
    refine J_iconst (pc := 32) hX (v := (1 : Int32)) (by decide) dX4_access_32 ?_
    refine J_icmp_lt (pc := 33) hX (tgt := 55) (by decide) dX4_access_33 (fun h47 => ?_) (fun h47 => ?_)
    · refine J_sub [0, 1, 2, 3, 4] rfl ?_
      exact hk11 I45
    · refine J_aload_n (pc := 36) hX 0 rfl dX4_access_36 ?_
      refine J_iload (pc := 37) hX 6 rfl dX4_access_37 ?_
      refine J_iload_n (pc := 39) hX 1 rfl dX4_access_39 ?_
      refine J_aload_n (pc := 40) hX 0 rfl dX4_access_40 ?_
      refine g_X4_105 (pc := 41) hX ht0 dX4_access_41 ?_
      refine J_iload (pc := 44) hX 5 rfl dX4_access_44 ?_
      refine J_call1 (fun I48 e49 => ?_)
      refine jrun_v (pc := 46) (jRunS hX s_X4_108 (As := [jr t0, ji v44, ji p0, ji (I45 t0 17), ji y5]) (rest := []) (C_X4_placeInto Y hz0 10 t0 ht0 v44 p0 (I45 t0 17) y5 I45 L0 I48 e49) rfl rfl ⟨by decide, by decide⟩ ⟨Nat.le_of_ble_eq_true rfl, Nat.le_of_ble_eq_true rfl⟩ (Nat.le_of_ble_eq_true rfl) dX4_access_46) ?_
      refine J_iinc (pc := 49) hX (v := (v44 + (-1 : Int32))) (lo' := [(6, ji (v44 + (-1 : Int32))), (0, jr t0), (1, ji p0), (2, ji p1), (3, ji p2), (4, ji y2), (5, ji y5)]) 6 rfl (by rfl) (by decide) rfl dX4_access_49 ?_
      refine J_goto (pc := 52) hX (tgt := 30) (by decide) dX4_access_52 ?_
      refine J_sub [1, 2, 3, 4, 5, 6, 0] rfl ?_
      exact hg46 (v44 + (-1 : Int32)) I48
  refine J_sub [3, 4, 5, 6, 2, 1, 0] rfl ?_
  exact lhg46 1000 y8 I6
theorem C_X4_access (Y : jY) (hz0 : Y.zf = false) (t0 : Nat) (ht0 : shC t0 = 5) (p0 : Int32) (p1 : Int32) (p2 : Int32) (I0 : jI) (L0 : jL) (r : Int32) (I1 : jI) (h : X4_access t0 p0 p1 p2 I0 = some (r, I1)) : jMet Y yX4_access cX4_access 8 (some .int) 45 2181 0 0 [jr t0, ji p0, ji p1, ji p2] NC shC rfC I0 L0 (some (ji r)) NC shC rfC I1 L0 :=
  jmet_of _ _ h (fun Z r => jQ Y Z 0 0 (some (ji r.1)) NC shC rfC r.2 L0) (fun _ => rfl) (by decide) (Nat.le_of_ble_eq_true rfl) (fun Z hX => W_X4_access hz0 t0 ht0 p0 p1 p2 I0 L0 hX (fun _ => rfl))
def X4_sweepLevel_F1 (t0 : Nat) (p0 : Int32) (x1 : Nat) (g8 : Int32 → Int32 → jI → Option (Int32 × jI)) : Int32 → Int32 → jI → Option (Int32 × jI) := fun (v5 : Int32) (v6 : Int32) (I7 : jI) =>
if (I7 x1 0) ≤ v6 then (
some (v5, I7))
else (
(X2_isDirty x1 v6 I7).bind (fun (y10 : Int32) =>
jlet (fun (v12 : Int32) (I13 : jI) =>
g8 v12 (v6 + (1 : Int32)) I13) (fun (k14 : Int32 → jI → Option (Int32 × jI)) =>
if y10 = 0 then (
k14 v5 I7)
else (
(X2_pageIn x1 v6 I7).bind (fun (y16 : Int32) =>
(X2_valueIn x1 v6 I7).bind (fun (y18 : Int32) =>
(X4_flush t0 p0 y16 y18 I7).bind (fun (I20 : jI) =>
(X2_valueIn x1 v6 I20).bind (fun (y22 : Int32) =>
(X2_change x1 v6 y22 (0 : Int32) I20).bind (fun (I24 : jI) =>
k14 (v5 + (1 : Int32)) I24)))))))))
def X4_sweepLevel (t0 : Nat) (p0 : Int32) (I0 : jI) : Option (Int32 × jI) :=
(X4_levelAt t0 p0 I0).bind (fun (x1 : Nat) =>
if x1 = 0 then (
some ((0 : Int32), I0))
else (
jfx (X4_sweepLevel_F1 t0 p0 x1) (fun _ _ _ => none) 1000 (0 : Int32) (0 : Int32) I0))
set_option maxRecDepth 20000 in
set_option maxHeartbeats 4000000 in
theorem W_X4_sweepLevel {Y : jY} {Z : jZ} {Qf : Int32 × jI → State → Prop} (hz0 : Y.zf = false) (t0 : Nat) (ht0 : shC t0 = 5) (p0 : Int32) (I0 : jI) (L0 : jL) (hX : jOK Y Z RX4 cX4_sweepLevel 5 "sweepLevel" (some .int) 3 129 0 0) (hQ : ∀ r : Int32 × jI, Qf r = jQ Y Z 0 0 (some (ji r.1)) NC shC rfC r.2 L0) : J Y Z 5 Qf (X4_sweepLevel t0 p0 I0) 0 [(0, jr t0), (1, ji p0)] [] 0 0 NC shC rfC I0 L0 := by
  unfold X4_sweepLevel
  refine J_aload_n (pc := 0) hX 0 rfl dX4_sweepLevel_0 ?_
  refine J_iload_n (pc := 1) hX 1 rfl dX4_sweepLevel_1 ?_
  refine J_call1 (fun x1 e2 => ?_)
  refine jrun_r (pc := 2) (jRunV hX s_X4_46 (ci := 4) (T := TX4) (N := 18) (As := [ji p0]) (rest := []) rfl (by decide) (C_X4_levelAt Y hz0 t0 ht0 p0 I0 L0 x1 e2) ht0 rfl rfl ⟨by decide, by decide⟩ ⟨Nat.le_of_ble_eq_true rfl, Nat.le_of_ble_eq_true rfl⟩ (Nat.le_of_ble_eq_true rfl) dX4_sweepLevel_2) ?_
  have t3 := T_X4_levelAt t0 ht0 p0 I0 e2
  refine J_astore_n (pc := 5) hX (lo' := [(2, jr x1), (0, jr t0), (1, ji p0)]) (by decide) rfl dX4_sweepLevel_5 ?_
  refine J_aload_n (pc := 6) hX 0 rfl dX4_sweepLevel_6 ?_
  refine J_ifnonnull (pc := 7) hX (tgt := 12) (by decide) dX4_sweepLevel_7 (fun h4 => ?_) (fun h4 => ?_)
  · refine J_iconst (pc := 12) hX (v := (0 : Int32)) (by decide) dX4_sweepLevel_12 ?_
    refine J_istore_n (pc := 13) hX (lo' := [(3, ji (0 : Int32)), (2, jr x1), (0, jr t0), (1, ji p0)]) (by decide) rfl dX4_sweepLevel_13 ?_
    refine J_iconst (pc := 14) hX (v := (0 : Int32)) (by decide) dX4_sweepLevel_14 ?_
    refine J_istore (pc := 15) hX (lo' := [(4, ji (0 : Int32)), (3, ji (0 : Int32)), (2, jr x1), (0, jr t0), (1, ji p0)]) (by decide) rfl dX4_sweepLevel_15 ?_
    have lhg8 : ∀ mq : Nat, ∀ (v5 : Int32) (v6 : Int32) (I7 : jI), J Y Z 5 Qf (jfx (X4_sweepLevel_F1 t0 p0 x1) (fun _ _ _ => none) mq v5 v6 I7) 17 [(0, jr t0), (1, ji p0), (2, jr x1), (3, ji v5), (4, ji v6)] [] 0 0 NC shC rfC I7 L0 := by
      intro mq
      refine jfx_J (fun (_ : Nat) (g8 : Int32 → Int32 → jI → Option (Int32 × jI)) => ∀ (v5 : Int32) (v6 : Int32) (I7 : jI), J Y Z 5 Qf (g8 v5 v6 I7) 17 [(0, jr t0), (1, ji p0), (2, jr x1), (3, ji v5), (4, ji v6)] [] 0 0 NC shC rfC I7 L0) ?_ (fun _ g8 hg8 => ?_) mq
      · intro v5 v6 I7
        exact J_none
      intro v5 v6 I7
      unfold X4_sweepLevel_F1
      try dsimp only
      refine J_iload (pc := 17) hX 4 rfl dX4_sweepLevel_17 ?_
      refine J_aload_n (pc := 19) hX 2 rfl dX4_sweepLevel_19 ?_
      refine g_X4_199 (pc := 20) hX (t3.resolve_left h4) dX4_sweepLevel_20 ?_
      refine J_icmp_ge (pc := 23) hX (tgt := 74) (by decide) dX4_sweepLevel_23 (fun h9 => ?_) (fun h9 => ?_)
      · refine J_iload_n (pc := 74) hX 3 rfl dX4_sweepLevel_74 ?_
        exact J_iret (pc := 75) hX (hQ _) dX4_sweepLevel_75
      · refine J_aload_n (pc := 26) hX 2 rfl dX4_sweepLevel_26 ?_
        refine J_iload (pc := 27) hX 4 rfl dX4_sweepLevel_27 ?_
        refine J_call1 (fun y10 e11 => ?_)
        refine jrun_i (pc := 29) (jRunV hX s_X4_150 (ci := 2) (T := TX2) (N := 19) (As := [ji v6]) (rest := []) rfl (by decide) (C_X2_isDirty Y hz0 x1 (t3.resolve_left h4) v6 I7 L0 y10 e11) (t3.resolve_left h4) rfl rfl ⟨by decide, by decide⟩ ⟨Nat.le_of_ble_eq_true rfl, Nat.le_of_ble_eq_true rfl⟩ (Nat.le_of_ble_eq_true rfl) dX4_sweepLevel_29) ?_
        refine J_join (fun (k14 : Int32 → jI → Option (Int32 × jI)) => ∀ (v12 : Int32) (I13 : jI), J Y Z 5 Qf (k14 v12 I13) 68 [(0, jr t0), (1, ji p0), (2, jr x1), (3, ji v12), (4, ji v6)] [] 0 0 NC shC rfC I13 L0) ?_ (fun k14 hk14 => ?_)
        · intro v12 I13
          try dsimp only
          refine J_iinc (pc := 68) hX (v := (v6 + (1 : Int32))) (lo' := [(4, ji (v6 + (1 : Int32))), (0, jr t0), (1, ji p0), (2, jr x1), (3, ji v12)]) 4 rfl (by rfl) (by decide) rfl dX4_sweepLevel_68 ?_
          refine J_goto (pc := 71) hX (tgt := 17) (by decide) dX4_sweepLevel_71 ?_
          refine J_sub [1, 2, 3, 4, 0] rfl ?_
          exact hg8 v12 (v6 + (1 : Int32)) I13
        refine J_if_eq (pc := 32) hX (tgt := 68) (by decide) dX4_sweepLevel_32 (fun h15 => ?_) (fun h15 => ?_)
        · exact hk14 v5 I7
        · refine J_aload_n (pc := 35) hX 0 rfl dX4_sweepLevel_35 ?_
          refine J_iload_n (pc := 36) hX 1 rfl dX4_sweepLevel_36 ?_
          refine J_aload_n (pc := 37) hX 2 rfl dX4_sweepLevel_37 ?_
          refine J_iload (pc := 38) hX 4 rfl dX4_sweepLevel_38 ?_
          refine J_call1 (fun y16 e17 => ?_)
          refine jrun_i (pc := 40) (jRunV hX s_X4_176 (ci := 2) (T := TX2) (N := 19) (As := [ji v6]) (rest := [ji p0, jr t0]) rfl (by decide) (C_X2_pageIn Y hz0 x1 (t3.resolve_left h4) v6 I7 L0 y16 e17) (t3.resolve_left h4) rfl rfl ⟨by decide, by decide⟩ ⟨Nat.le_of_ble_eq_true rfl, Nat.le_of_ble_eq_true rfl⟩ (Nat.le_of_ble_eq_true rfl) dX4_sweepLevel_40) ?_
          refine J_aload_n (pc := 43) hX 2 rfl dX4_sweepLevel_43 ?_
          refine J_iload (pc := 44) hX 4 rfl dX4_sweepLevel_44 ?_
          refine J_call1 (fun y18 e19 => ?_)
          refine jrun_i (pc := 46) (jRunV hX s_X4_144 (ci := 2) (T := TX2) (N := 19) (As := [ji v6]) (rest := [ji y16, ji p0, jr t0]) rfl (by decide) (C_X2_valueIn Y hz0 x1 (t3.resolve_left h4) v6 I7 L0 y18 e19) (t3.resolve_left h4) rfl rfl ⟨by decide, by decide⟩ ⟨Nat.le_of_ble_eq_true rfl, Nat.le_of_ble_eq_true rfl⟩ (Nat.le_of_ble_eq_true rfl) dX4_sweepLevel_46) ?_
          refine J_call1 (fun I20 e21 => ?_)
          refine jrun_v (pc := 49) (jRunV hX s_X4_212 (ci := 4) (T := TX4) (N := 18) (As := [ji p0, ji y16, ji y18]) (rest := []) rfl (by decide) (C_X4_flush Y hz0 t0 ht0 p0 y16 y18 I7 L0 I20 e21) ht0 rfl rfl ⟨by decide, by decide⟩ ⟨Nat.le_of_ble_eq_true rfl, Nat.le_of_ble_eq_true rfl⟩ (Nat.le_of_ble_eq_true rfl) dX4_sweepLevel_49) ?_
          refine J_aload_n (pc := 52) hX 2 rfl dX4_sweepLevel_52 ?_
          refine J_iload (pc := 53) hX 4 rfl dX4_sweepLevel_53 ?_
          refine J_aload_n (pc := 55) hX 2 rfl dX4_sweepLevel_55 ?_
          refine J_iload (pc := 56) hX 4 rfl dX4_sweepLevel_56 ?_
          refine J_call1 (fun y22 e23 => ?_)
          refine jrun_i (pc := 58) (jRunV hX s_X4_144 (ci := 2) (T := TX2) (N := 19) (As := [ji v6]) (rest := [ji v6, jr x1]) rfl (by decide) (C_X2_valueIn Y hz0 x1 (t3.resolve_left h4) v6 I20 L0 y22 e23) (t3.resolve_left h4) rfl rfl ⟨by decide, by decide⟩ ⟨Nat.le_of_ble_eq_true rfl, Nat.le_of_ble_eq_true rfl⟩ (Nat.le_of_ble_eq_true rfl) dX4_sweepLevel_58) ?_
          refine J_iconst (pc := 61) hX (v := (0 : Int32)) (by decide) dX4_sweepLevel_61 ?_
          refine J_call1 (fun I24 e25 => ?_)
          refine jrun_v (pc := 62) (jRunV hX s_X4_162 (ci := 2) (T := TX2) (N := 19) (As := [ji v6, ji y22, ji (0 : Int32)]) (rest := []) rfl (by decide) (C_X2_change Y hz0 x1 (t3.resolve_left h4) v6 y22 (0 : Int32) I20 L0 I24 e25) (t3.resolve_left h4) rfl rfl ⟨by decide, by decide⟩ ⟨Nat.le_of_ble_eq_true rfl, Nat.le_of_ble_eq_true rfl⟩ (Nat.le_of_ble_eq_true rfl) dX4_sweepLevel_62) ?_
          refine J_iinc (pc := 65) hX (v := (v5 + (1 : Int32))) (lo' := [(3, ji (v5 + (1 : Int32))), (0, jr t0), (1, ji p0), (2, jr x1), (4, ji v6)]) 3 rfl (by rfl) (by decide) rfl dX4_sweepLevel_65 ?_
          refine J_sub [1, 2, 3, 0, 4] rfl ?_
          exact hk14 (v5 + (1 : Int32)) I24
    refine J_sub [3, 4, 2, 1, 0] rfl ?_
    exact lhg8 1000 (0 : Int32) (0 : Int32) I0
  · refine J_iconst (pc := 10) hX (v := (0 : Int32)) (by decide) dX4_sweepLevel_10 ?_
    exact J_iret (pc := 11) hX (hQ _) dX4_sweepLevel_11
theorem C_X4_sweepLevel (Y : jY) (hz0 : Y.zf = false) (t0 : Nat) (ht0 : shC t0 = 5) (p0 : Int32) (I0 : jI) (L0 : jL) (r : Int32) (I1 : jI) (h : X4_sweepLevel t0 p0 I0 = some (r, I1)) : jMet Y yX4_sweepLevel cX4_sweepLevel 5 (some .int) 3 129 0 0 [jr t0, ji p0] NC shC rfC I0 L0 (some (ji r)) NC shC rfC I1 L0 :=
  jmet_of _ _ h (fun Z r => jQ Y Z 0 0 (some (ji r.1)) NC shC rfC r.2 L0) (fun _ => rfl) (by decide) (Nat.le_of_ble_eq_true rfl) (fun Z hX => W_X4_sweepLevel hz0 t0 ht0 p0 I0 L0 hX (fun _ => rfl))
def X4_sweepOut_F1 (t0 : Nat) (g5 : Int32 → jI → Option (jI)) : Int32 → jI → Option (jI) := fun (v3 : Int32) (I4 : jI) =>
if (I4 t0 1) < v3 then (
jlet (jup I4 t0 8 (0 : Int32)) (fun (I7 : jI) =>
some I7))
else (
(X4_levelAt t0 v3 I4).bind (fun (x8 : Nat) =>
jlet (fun (I11 : jI) =>
g5 (v3 + (1 : Int32)) I11) (fun (k12 : jI → Option (jI)) =>
if x8 = 0 then (
k12 I4)
else (
(X2_holdNothing x8 I4).bind (fun (I14 : jI) =>
k12 I14)))))
def X4_sweepOut_F2 (t0 : Nat) (k2 : jI → Option (jI)) (g18 : Int32 → jI → Option (jI)) : Int32 → jI → Option (jI) := fun (v16 : Int32) (I17 : jI) =>
if (I17 t0 1) < v16 then (
k2 I17)
else (
jb2 (X4_sweepLevel t0 v16 I17) (fun (y20 : Int32) (I21 : jI) =>
g18 (v16 + (1 : Int32)) I21))
def X4_sweepOut (t0 : Nat) (I0 : jI) : Option (jI) :=
jlet (fun (I1 : jI) =>
jfx (X4_sweepOut_F1 t0) (fun _ _ => none) 1000 (1 : Int32) I1) (fun (k2 : jI → Option (jI)) =>
jfx (X4_sweepOut_F2 t0 k2) (fun _ _ => none) 1000 (1 : Int32) I0)
set_option maxRecDepth 20000 in
set_option maxHeartbeats 4000000 in
theorem W_X4_sweepOut {Y : jY} {Z : jZ} {Qf : jI → State → Prop} (hz0 : Y.zf = false) (t0 : Nat) (ht0 : shC t0 = 5) (I0 : jI) (L0 : jL) (hX : jOK Y Z RX4 cX4_sweepOut 3 "sweepOut" none 4 153 0 0) (hQ : ∀ r : jI, Qf r = jQ Y Z 0 0 none NC shC rfC r L0) : J Y Z 3 Qf (X4_sweepOut t0 I0) 0 [(0, jr t0)] [] 0 0 NC shC rfC I0 L0 := by
  unfold X4_sweepOut
  refine J_iconst (pc := 0) hX (v := (1 : Int32)) (by decide) dX4_sweepOut_0 ?_
  refine J_istore_n (pc := 1) hX (lo' := [(1, ji (1 : Int32)), (0, jr t0)]) (by decide) rfl dX4_sweepOut_1 ?_
  refine J_join (fun (k2 : jI → Option (jI)) => ∀ (I1 : jI), J Y Z 3 Qf (k2 I1) 22 [(0, jr t0)] [] 0 0 NC shC rfC I1 L0) ?_ (fun k2 hk2 => ?_)
  · intro I1
    try dsimp only
    refine J_iconst (pc := 22) hX (v := (1 : Int32)) (by decide) dX4_sweepOut_22 ?_
    refine J_istore_n (pc := 23) hX (lo' := [(1, ji (1 : Int32)), (0, jr t0)]) (by decide) rfl dX4_sweepOut_23 ?_
    have lhg5 : ∀ mq : Nat, ∀ (v3 : Int32) (I4 : jI), J Y Z 3 Qf (jfx (X4_sweepOut_F1 t0) (fun _ _ => none) mq v3 I4) 24 [(0, jr t0), (1, ji v3)] [] 0 0 NC shC rfC I4 L0 := by
      intro mq
      refine jfx_J (fun (_ : Nat) (g5 : Int32 → jI → Option (jI)) => ∀ (v3 : Int32) (I4 : jI), J Y Z 3 Qf (g5 v3 I4) 24 [(0, jr t0), (1, ji v3)] [] 0 0 NC shC rfC I4 L0) ?_ (fun _ g5 hg5 => ?_) mq
      · intro v3 I4
        exact J_none
      intro v3 I4
      unfold X4_sweepOut_F1
      try dsimp only
      refine J_iload_n (pc := 24) hX 1 rfl dX4_sweepOut_24 ?_
      refine J_aload_n (pc := 25) hX 0 rfl dX4_sweepOut_25 ?_
      refine g_X4_43 (pc := 26) hX ht0 dX4_sweepOut_26 ?_
      refine J_icmp_gt (pc := 29) hX (tgt := 52) (by decide) dX4_sweepOut_29 (fun h6 => ?_) (fun h6 => ?_)
      · refine J_aload_n (pc := 52) hX 0 rfl dX4_sweepOut_52 ?_
        refine J_iconst (pc := 53) hX (v := (0 : Int32)) (by decide) dX4_sweepOut_53 ?_
        refine p_X4_72 (pc := 54) hX ht0 dX4_sweepOut_54 (fun I7 => ?_)
        exact J_vret (pc := 57) hX (hQ _) dX4_sweepOut_57
      · refine J_aload_n (pc := 32) hX 0 rfl dX4_sweepOut_32 ?_
        refine J_iload_n (pc := 33) hX 1 rfl dX4_sweepOut_33 ?_
        refine J_call1 (fun x8 e9 => ?_)
        refine jrun_r (pc := 34) (jRunV hX s_X4_46 (ci := 4) (T := TX4) (N := 18) (As := [ji v3]) (rest := []) rfl (by decide) (C_X4_levelAt Y hz0 t0 ht0 v3 I4 L0 x8 e9) ht0 rfl rfl ⟨by decide, by decide⟩ ⟨Nat.le_of_ble_eq_true rfl, Nat.le_of_ble_eq_true rfl⟩ (Nat.le_of_ble_eq_true rfl) dX4_sweepOut_34) ?_
        have t10 := T_X4_levelAt t0 ht0 v3 I4 e9
        refine J_astore_n (pc := 37) hX (lo' := [(2, jr x8), (0, jr t0), (1, ji v3)]) (by decide) rfl dX4_sweepOut_37 ?_
        refine J_aload_n (pc := 38) hX 0 rfl dX4_sweepOut_38 ?_
        refine J_join (fun (k12 : jI → Option (jI)) => ∀ (I11 : jI), J Y Z 3 Qf (k12 I11) 46 [(0, jr t0), (1, ji v3)] [] 0 0 NC shC rfC I11 L0) ?_ (fun k12 hk12 => ?_)
        · intro I11
          try dsimp only
          refine J_iinc (pc := 46) hX (v := (v3 + (1 : Int32))) (lo' := [(1, ji (v3 + (1 : Int32))), (0, jr t0)]) 1 rfl (by rfl) (by decide) rfl dX4_sweepOut_46 ?_
          refine J_goto (pc := 49) hX (tgt := 24) (by decide) dX4_sweepOut_49 ?_
          refine J_sub [1, 0] rfl ?_
          exact hg5 (v3 + (1 : Int32)) I11
        refine J_ifnull (pc := 39) hX (tgt := 46) (by decide) dX4_sweepOut_39 (fun h13 => ?_) (fun h13 => ?_)
        · refine J_sub [1, 2] rfl ?_
          exact hk12 I4
        · refine J_aload_n (pc := 42) hX 0 rfl dX4_sweepOut_42 ?_
          refine J_call1 (fun I14 e15 => ?_)
          refine jrun_v (pc := 43) (jRunV hX s_X4_222 (ci := 2) (T := TX2) (N := 19) (As := []) (rest := []) rfl (by decide) (C_X2_holdNothing Y hz0 x8 (t10.resolve_left h13) I4 L0 I14 e15) (t10.resolve_left h13) rfl rfl ⟨by decide, by decide⟩ ⟨Nat.le_of_ble_eq_true rfl, Nat.le_of_ble_eq_true rfl⟩ (Nat.le_of_ble_eq_true rfl) dX4_sweepOut_43) ?_
          refine J_sub [1, 2] rfl ?_
          exact hk12 I14
    refine J_sub [1, 0] rfl ?_
    exact lhg5 1000 (1 : Int32) I1
  have lhg18 : ∀ mq : Nat, ∀ (v16 : Int32) (I17 : jI), J Y Z 3 Qf (jfx (X4_sweepOut_F2 t0 k2) (fun _ _ => none) mq v16 I17) 2 [(0, jr t0), (1, ji v16)] [] 0 0 NC shC rfC I17 L0 := by
    intro mq
    refine jfx_J (fun (_ : Nat) (g18 : Int32 → jI → Option (jI)) => ∀ (v16 : Int32) (I17 : jI), J Y Z 3 Qf (g18 v16 I17) 2 [(0, jr t0), (1, ji v16)] [] 0 0 NC shC rfC I17 L0) ?_ (fun _ g18 hg18 => ?_) mq
    · intro v16 I17
      exact J_none
    intro v16 I17
    unfold X4_sweepOut_F2
    try dsimp only
    refine J_iload_n (pc := 2) hX 1 rfl dX4_sweepOut_2 ?_
    refine J_aload_n (pc := 3) hX 0 rfl dX4_sweepOut_3 ?_
    refine g_X4_43 (pc := 4) hX ht0 dX4_sweepOut_4 ?_
    refine J_icmp_gt (pc := 7) hX (tgt := 22) (by decide) dX4_sweepOut_7 (fun h19 => ?_) (fun h19 => ?_)
    · refine J_sub [0] rfl ?_
      exact hk2 I17
    · refine J_aload_n (pc := 10) hX 0 rfl dX4_sweepOut_10 ?_
      refine J_iload_n (pc := 11) hX 1 rfl dX4_sweepOut_11 ?_
      refine J_call2 (fun y20 I21 e22 => ?_)
      refine jrun_i (pc := 12) (jRunV hX s_X4_219 (ci := 4) (T := TX4) (N := 18) (As := [ji v16]) (rest := []) rfl (by decide) (C_X4_sweepLevel Y hz0 t0 ht0 v16 I17 L0 y20 I21 e22) ht0 rfl rfl ⟨by decide, by decide⟩ ⟨Nat.le_of_ble_eq_true rfl, Nat.le_of_ble_eq_true rfl⟩ (Nat.le_of_ble_eq_true rfl) dX4_sweepOut_12) ?_
      refine J_pop (pc := 15) hX rfl dX4_sweepOut_15 ?_
      refine J_iinc (pc := 16) hX (v := (v16 + (1 : Int32))) (lo' := [(1, ji (v16 + (1 : Int32))), (0, jr t0)]) 1 rfl (by rfl) (by decide) rfl dX4_sweepOut_16 ?_
      refine J_goto (pc := 19) hX (tgt := 2) (by decide) dX4_sweepOut_19 ?_
      refine J_sub [1, 0] rfl ?_
      exact hg18 (v16 + (1 : Int32)) I21
  refine J_sub [1, 0] rfl ?_
  exact lhg18 1000 (1 : Int32) I0
theorem C_X4_sweepOut (Y : jY) (hz0 : Y.zf = false) (t0 : Nat) (ht0 : shC t0 = 5) (I0 : jI) (L0 : jL) (I1 : jI) (h : X4_sweepOut t0 I0 = some I1) : jMet Y yX4_sweepOut cX4_sweepOut 3 none 4 153 0 0 [jr t0] NC shC rfC I0 L0 none NC shC rfC I1 L0 :=
  jmet_of _ _ h (fun Z r => jQ Y Z 0 0 none NC shC rfC r L0) (fun _ => rfl) (by decide) (Nat.le_of_ble_eq_true rfl) (fun Z hX => W_X4_sweepOut hz0 t0 ht0 I0 L0 hX (fun _ => rfl))
def X4_pagesIn_F1 (t0 : Nat) (p0 : Int32) (I0 : jI) (g3 : Int64 → Int32 → Option (Int64)) : Int64 → Int32 → Option (Int64) := fun (v1 : Int64) (v2 : Int32) =>
if (64 : Int32) ≤ v2 then (
some v1)
else (
(X4_levelsWith t0 v2 I0).bind (fun (y5 : Int32) =>
jlet (fun (v7 : Int64) =>
g3 v7 (v2 + (1 : Int32))) (fun (k8 : Int64 → Option (Int64)) =>
jlet (
jlet ((v1 ||| (jlshl (1 : Int64) v2))) (fun (y10 : Int64) =>
k8 y10)) (fun (k9 : Option (Int64)) =>
if p0 = 0 then (
if y5 = 0 then (
k8 v1)
else (
k9))
else (
if ((jushr y5 (p0 - (1 : Int32))) &&& (1 : Int32)) = (1 : Int32) then (
k9)
else (
k8 v1))))))
def X4_pagesIn (t0 : Nat) (p0 : Int32) (I0 : jI) : Option (Int64) :=
jfx (X4_pagesIn_F1 t0 p0 I0) (fun _ _ => none) 1000 (0 : Int64) (0 : Int32)
set_option maxRecDepth 20000 in
set_option maxHeartbeats 4000000 in
theorem W_X4_pagesIn {Y : jY} {Z : jZ} {Qf : Int64 → State → Prop} (hz0 : Y.zf = false) (t0 : Nat) (ht0 : shC t0 = 5) (p0 : Int32) (I0 : jI) (L0 : jL) (hX : jOK Y Z RX4 cX4_pagesIn 6 "pagesIn" (some .long) 3 125 0 0) (hQ : ∀ r : Int64, Qf r = jQ Y Z 0 0 (some (jl r)) NC shC rfC I0 L0) : J Y Z 6 Qf (X4_pagesIn t0 p0 I0) 0 [(0, jr t0), (1, ji p0)] [] 0 0 NC shC rfC I0 L0 := by
  unfold X4_pagesIn
  refine J_lconst (pc := 0) hX (v := (0 : Int64)) (by decide) dX4_pagesIn_0 ?_
  refine J_lstore_n (pc := 1) hX (lo' := [(2, jl (0 : Int64)), (0, jr t0), (1, ji p0)]) (by decide) rfl dX4_pagesIn_1 ?_
  refine J_iconst (pc := 2) hX (v := (0 : Int32)) (by decide) dX4_pagesIn_2 ?_
  refine J_istore (pc := 3) hX (lo' := [(4, ji (0 : Int32)), (2, jl (0 : Int64)), (0, jr t0), (1, ji p0)]) (by decide) rfl dX4_pagesIn_3 ?_
  have lhg3 : ∀ mq : Nat, ∀ (v1 : Int64) (v2 : Int32), J Y Z 6 Qf (jfx (X4_pagesIn_F1 t0 p0 I0) (fun _ _ => none) mq v1 v2) 5 [(0, jr t0), (1, ji p0), (2, jl v1), (4, ji v2)] [] 0 0 NC shC rfC I0 L0 := by
    intro mq
    refine jfx_J (fun (_ : Nat) (g3 : Int64 → Int32 → Option (Int64)) => ∀ (v1 : Int64) (v2 : Int32), J Y Z 6 Qf (g3 v1 v2) 5 [(0, jr t0), (1, ji p0), (2, jl v1), (4, ji v2)] [] 0 0 NC shC rfC I0 L0) ?_ (fun _ g3 hg3 => ?_) mq
    · intro v1 v2
      exact J_none
    intro v1 v2
    unfold X4_pagesIn_F1
    try dsimp only
    refine J_iload (pc := 5) hX 3 rfl dX4_pagesIn_5 ?_
    refine J_bipush (pc := 7) hX (v := (64 : Int32)) (by decide) dX4_pagesIn_7 ?_
    refine J_icmp_ge (pc := 9) hX (tgt := 57) (by decide) dX4_pagesIn_9 (fun h4 => ?_) (fun h4 => ?_)
    · refine J_lload_n (pc := 57) hX 2 rfl dX4_pagesIn_57 ?_
      exact J_lret (pc := 58) hX (hQ _) dX4_pagesIn_58
    · refine J_aload_n (pc := 12) hX 0 rfl dX4_pagesIn_12 ?_
      refine J_iload (pc := 13) hX 3 rfl dX4_pagesIn_13 ?_
      refine J_call1 (fun y5 e6 => ?_)
      refine jrun_i (pc := 15) (jRunV hX s_X4_122 (ci := 4) (T := TX4) (N := 18) (As := [ji v2]) (rest := []) rfl (by decide) (C_X4_levelsWith Y hz0 t0 ht0 v2 I0 L0 y5 e6) ht0 rfl rfl ⟨by decide, by decide⟩ ⟨Nat.le_of_ble_eq_true rfl, Nat.le_of_ble_eq_true rfl⟩ (Nat.le_of_ble_eq_true rfl) dX4_pagesIn_15) ?_
      refine J_istore (pc := 18) hX (lo' := [(5, ji y5), (0, jr t0), (1, ji p0), (2, jl v1), (4, ji v2)]) (by decide) rfl dX4_pagesIn_18 ?_
      refine J_iload_n (pc := 20) hX 2 rfl dX4_pagesIn_20 ?_
      refine J_join (fun (k8 : Int64 → Option (Int64)) => ∀ (v7 : Int64), J Y Z 6 Qf (k8 v7) 51 [(0, jr t0), (1, ji p0), (2, jl v7), (4, ji v2)] [] 0 0 NC shC rfC I0 L0) ?_ (fun k8 hk8 => ?_)
      · intro v7
        try dsimp only
        refine J_iinc (pc := 51) hX (v := (v2 + (1 : Int32))) (lo' := [(4, ji (v2 + (1 : Int32))), (0, jr t0), (1, ji p0), (2, jl v7)]) 3 rfl (by rfl) (by decide) rfl dX4_pagesIn_51 ?_
        refine J_goto (pc := 54) hX (tgt := 5) (by decide) dX4_pagesIn_54 ?_
        refine J_sub [1, 2, 3, 0] rfl ?_
        exact hg3 v7 (v2 + (1 : Int32))
      refine J_join (fun (k9 : Option (Int64)) => J Y Z 6 Qf (k9) 44 [(0, jr t0), (1, ji p0), (2, jl v1), (4, ji v2)] [] 0 0 NC shC rfC I0 L0) ?_ (fun k9 hk9 => ?_)
      · refine J_lload_n (pc := 44) hX 2 rfl dX4_pagesIn_44 ?_
        refine J_lconst (pc := 45) hX (v := (1 : Int64)) (by decide) dX4_pagesIn_45 ?_
        refine J_iload (pc := 46) hX 3 rfl dX4_pagesIn_46 ?_
        refine J_lshl (pc := 48) hX dX4_pagesIn_48 ?_
        refine J_lor (pc := 49) hX dX4_pagesIn_49 ?_
        refine J_letl (fun y10 => ?_)
        refine J_lstore_n (pc := 50) hX (lo' := [(2, jl y10), (0, jr t0), (1, ji p0), (4, ji v2)]) (by decide) rfl dX4_pagesIn_50 ?_
        refine J_sub [1, 2, 0, 3] rfl ?_
        exact hk8 y10
      refine J_if_ne (pc := 21) hX (tgt := 32) (by decide) dX4_pagesIn_21 (fun h11 => ?_) (fun h11 => ?_)
      · refine J_iload (pc := 32) hX 0 rfl dX4_pagesIn_32 ?_
        refine J_iload_n (pc := 34) hX 2 rfl dX4_pagesIn_34 ?_
        refine J_iconst (pc := 35) hX (v := (1 : Int32)) (by decide) dX4_pagesIn_35 ?_
        refine J_isub (pc := 36) hX dX4_pagesIn_36 ?_
        refine J_iushr (pc := 37) hX dX4_pagesIn_37 ?_
        refine J_iconst (pc := 38) hX (v := (1 : Int32)) (by decide) dX4_pagesIn_38 ?_
        refine J_iand (pc := 39) hX dX4_pagesIn_39 ?_
        refine J_iconst (pc := 40) hX (v := (1 : Int32)) (by decide) dX4_pagesIn_40 ?_
        refine J_icmp_ne (pc := 41) hX (tgt := 51) (by decide) dX4_pagesIn_41 (fun h12 => ?_) (fun h12 => ?_)
        · refine J_sub [1, 2, 3, 4] rfl ?_
          exact hk8 v1
        · refine J_sub [1, 2, 3, 4] rfl ?_
          exact hk9
      · refine J_iload (pc := 24) hX 0 rfl dX4_pagesIn_24 ?_
        refine J_if_eq (pc := 26) hX (tgt := 51) (by decide) dX4_pagesIn_26 (fun h13 => ?_) (fun h13 => ?_)
        · refine J_sub [1, 2, 3, 4] rfl ?_
          exact hk8 v1
        · refine J_goto (pc := 29) hX (tgt := 44) (by decide) dX4_pagesIn_29 ?_
          refine J_sub [1, 2, 3, 4] rfl ?_
          exact hk9
  refine J_sub [2, 3, 1, 0] rfl ?_
  exact lhg3 1000 (0 : Int64) (0 : Int32)
theorem C_X4_pagesIn (Y : jY) (hz0 : Y.zf = false) (t0 : Nat) (ht0 : shC t0 = 5) (p0 : Int32) (I0 : jI) (L0 : jL) (r : Int64) (h : X4_pagesIn t0 p0 I0 = some r) : jMet Y yX4_pagesIn cX4_pagesIn 6 (some .long) 3 125 0 0 [jr t0, ji p0] NC shC rfC I0 L0 (some (jl r)) NC shC rfC I0 L0 :=
  jmet_of _ _ h (fun Z r => jQ Y Z 0 0 (some (jl r)) NC shC rfC I0 L0) (fun _ => rfl) (by decide) (Nat.le_of_ble_eq_true rfl) (fun Z hX => W_X4_pagesIn hz0 t0 ht0 p0 I0 L0 hX (fun _ => rfl))
def X4_flushedInAll_F1 (t0 : Nat) (I0 : jI) (g3 : Int32 → Int32 → Option (Int32)) : Int32 → Int32 → Option (Int32) := fun (v1 : Int32) (v2 : Int32) =>
if (I0 t0 1) < v2 then (
some v1)
else (
(X4_levelAt t0 v2 I0).bind (fun (x5 : Nat) =>
jlet (fun (v8 : Int32) =>
jlet ((v1 + v8)) (fun (y10 : Int32) =>
g3 y10 (v2 + (1 : Int32)))) (fun (k9 : Int32 → Option (Int32)) =>
if x5 = 0 then (
k9 (0 : Int32))
else (
k9 (I0 x5 8)))))
def X4_flushedInAll (t0 : Nat) (I0 : jI) : Option (Int32) :=
jfx (X4_flushedInAll_F1 t0 I0) (fun _ _ => none) 1000 (0 : Int32) (1 : Int32)
set_option maxRecDepth 20000 in
set_option maxHeartbeats 4000000 in
theorem W_X4_flushedInAll {Y : jY} {Z : jZ} {Qf : Int32 → State → Prop} (hz0 : Y.zf = false) (t0 : Nat) (ht0 : shC t0 = 5) (I0 : jI) (L0 : jL) (hX : jOK Y Z RX4 cX4_flushedInAll 4 "flushedInAll" (some .int) 2 101 0 0) (hQ : ∀ r : Int32, Qf r = jQ Y Z 0 0 (some (ji r)) NC shC rfC I0 L0) : J Y Z 4 Qf (X4_flushedInAll t0 I0) 0 [(0, jr t0)] [] 0 0 NC shC rfC I0 L0 := by
  unfold X4_flushedInAll
  refine J_iconst (pc := 0) hX (v := (0 : Int32)) (by decide) dX4_flushedInAll_0 ?_
  refine J_istore_n (pc := 1) hX (lo' := [(1, ji (0 : Int32)), (0, jr t0)]) (by decide) rfl dX4_flushedInAll_1 ?_
  refine J_iconst (pc := 2) hX (v := (1 : Int32)) (by decide) dX4_flushedInAll_2 ?_
  refine J_istore_n (pc := 3) hX (lo' := [(2, ji (1 : Int32)), (1, ji (0 : Int32)), (0, jr t0)]) (by decide) rfl dX4_flushedInAll_3 ?_
  have lhg3 : ∀ mq : Nat, ∀ (v1 : Int32) (v2 : Int32), J Y Z 4 Qf (jfx (X4_flushedInAll_F1 t0 I0) (fun _ _ => none) mq v1 v2) 4 [(0, jr t0), (1, ji v1), (2, ji v2)] [] 0 0 NC shC rfC I0 L0 := by
    intro mq
    refine jfx_J (fun (_ : Nat) (g3 : Int32 → Int32 → Option (Int32)) => ∀ (v1 : Int32) (v2 : Int32), J Y Z 4 Qf (g3 v1 v2) 4 [(0, jr t0), (1, ji v1), (2, ji v2)] [] 0 0 NC shC rfC I0 L0) ?_ (fun _ g3 hg3 => ?_) mq
    · intro v1 v2
      exact J_none
    intro v1 v2
    unfold X4_flushedInAll_F1
    try dsimp only
    refine J_iload_n (pc := 4) hX 2 rfl dX4_flushedInAll_4 ?_
    refine J_aload_n (pc := 5) hX 0 rfl dX4_flushedInAll_5 ?_
    refine g_X4_43 (pc := 6) hX ht0 dX4_flushedInAll_6 ?_
    refine J_icmp_gt (pc := 9) hX (tgt := 39) (by decide) dX4_flushedInAll_9 (fun h4 => ?_) (fun h4 => ?_)
    · refine J_iload_n (pc := 39) hX 1 rfl dX4_flushedInAll_39 ?_
      exact J_iret (pc := 40) hX (hQ _) dX4_flushedInAll_40
    · refine J_aload_n (pc := 12) hX 0 rfl dX4_flushedInAll_12 ?_
      refine J_iload_n (pc := 13) hX 2 rfl dX4_flushedInAll_13 ?_
      refine J_call1 (fun x5 e6 => ?_)
      refine jrun_r (pc := 14) (jRunV hX s_X4_46 (ci := 4) (T := TX4) (N := 18) (As := [ji v2]) (rest := []) rfl (by decide) (C_X4_levelAt Y hz0 t0 ht0 v2 I0 L0 x5 e6) ht0 rfl rfl ⟨by decide, by decide⟩ ⟨Nat.le_of_ble_eq_true rfl, Nat.le_of_ble_eq_true rfl⟩ (Nat.le_of_ble_eq_true rfl) dX4_flushedInAll_14) ?_
      have t7 := T_X4_levelAt t0 ht0 v2 I0 e6
      refine J_astore_n (pc := 17) hX (lo' := [(3, jr x5), (0, jr t0), (1, ji v1), (2, ji v2)]) (by decide) rfl dX4_flushedInAll_17 ?_
      refine J_iload_n (pc := 18) hX 2 rfl dX4_flushedInAll_18 ?_
      refine J_aload_n (pc := 19) hX 0 rfl dX4_flushedInAll_19 ?_
      refine J_join (fun (k9 : Int32 → Option (Int32)) => ∀ (v8 : Int32), J Y Z 4 Qf (k9 v8) 31 [(0, jr t0), (2, ji v2)] [ji v8, ji v1] 0 0 NC shC rfC I0 L0) ?_ (fun k9 hk9 => ?_)
      · intro v8
        try dsimp only
        refine J_iadd (pc := 31) hX dX4_flushedInAll_31 ?_
        refine J_leti (fun y10 => ?_)
        refine J_istore_n (pc := 32) hX (lo' := [(1, ji y10), (0, jr t0), (2, ji v2)]) (by decide) rfl dX4_flushedInAll_32 ?_
        refine J_iinc (pc := 33) hX (v := (v2 + (1 : Int32))) (lo' := [(2, ji (v2 + (1 : Int32))), (1, ji y10), (0, jr t0)]) 2 rfl (by rfl) (by decide) rfl dX4_flushedInAll_33 ?_
        refine J_goto (pc := 36) hX (tgt := 4) (by decide) dX4_flushedInAll_36 ?_
        refine J_sub [2, 1, 0] rfl ?_
        exact hg3 y10 (v2 + (1 : Int32))
      refine J_ifnonnull (pc := 20) hX (tgt := 27) (by decide) dX4_flushedInAll_20 (fun h11 => ?_) (fun h11 => ?_)
      · refine J_aload_n (pc := 27) hX 0 rfl dX4_flushedInAll_27 ?_
        refine g_X4_216 (pc := 28) hX (t7.resolve_left h11) dX4_flushedInAll_28 ?_
        refine J_sub [1, 3] rfl ?_
        exact hk9 (I0 x5 8)
      · refine J_iconst (pc := 23) hX (v := (0 : Int32)) (by decide) dX4_flushedInAll_23 ?_
        refine J_goto (pc := 24) hX (tgt := 31) (by decide) dX4_flushedInAll_24 ?_
        refine J_sub [1, 3] rfl ?_
        exact hk9 (0 : Int32)
  refine J_sub [2, 1, 0] rfl ?_
  exact lhg3 1000 (0 : Int32) (1 : Int32)
theorem C_X4_flushedInAll (Y : jY) (hz0 : Y.zf = false) (t0 : Nat) (ht0 : shC t0 = 5) (I0 : jI) (L0 : jL) (r : Int32) (h : X4_flushedInAll t0 I0 = some r) : jMet Y yX4_flushedInAll cX4_flushedInAll 4 (some .int) 2 101 0 0 [jr t0] NC shC rfC I0 L0 (some (ji r)) NC shC rfC I0 L0 :=
  jmet_of _ _ h (fun Z r => jQ Y Z 0 0 (some (ji r)) NC shC rfC I0 L0) (fun _ => rfl) (by decide) (Nat.le_of_ble_eq_true rfl) (fun Z hX => W_X4_flushedInAll hz0 t0 ht0 I0 L0 hX (fun _ => rfl))
def J6_bitCount_0f7a4 (p0 : Int32) : Option (Int32) :=
jlet ((p0 - ((jushr p0 (1 : Int32)) &&& (1431655765 : Int32)))) (fun (y1 : Int32) =>
jlet (((y1 &&& (858993459 : Int32)) + ((jushr y1 (2 : Int32)) &&& (858993459 : Int32)))) (fun (y2 : Int32) =>
jlet (((y2 + (jushr y2 (4 : Int32))) &&& (252645135 : Int32))) (fun (y3 : Int32) =>
jlet ((y3 + (jushr y3 (8 : Int32)))) (fun (y4 : Int32) =>
jlet ((y4 + (jushr y4 (16 : Int32)))) (fun (y5 : Int32) =>
some (y5 &&& (63 : Int32)))))))
set_option maxRecDepth 20000 in
set_option maxHeartbeats 4000000 in
theorem W_J6_bitCount_0f7a4 {Y : jY} {Z : jZ} {Qf : Int32 → State → Prop} (hz0 : Y.zf = false) (p0 : Int32) (I0 : jI) (L0 : jL) (hX : jOK Y Z RJ6 cJ6_bitCount_0f7a4 1 "bitCount" (some .int) 1 80 0 0) (hQ : ∀ r : Int32, Qf r = jQ Y Z 0 0 (some (ji r)) NC shC rfC I0 L0) : J Y Z 1 Qf (J6_bitCount_0f7a4 p0) 0 [(0, ji p0)] [] 0 0 NC shC rfC I0 L0 := by
  unfold J6_bitCount_0f7a4
  refine J_iload_n (pc := 0) hX 0 rfl dJ6_bitCount_0f7a4_0 ?_
  refine J_iload_n (pc := 1) hX 0 rfl dJ6_bitCount_0f7a4_1 ?_
  refine J_iconst (pc := 2) hX (v := (1 : Int32)) (by decide) dJ6_bitCount_0f7a4_2 ?_
  refine J_iushr (pc := 3) hX dJ6_bitCount_0f7a4_3 ?_
  refine J_ldcw (pc := 4) hX q_J6_265 dJ6_bitCount_0f7a4_4 ?_
  refine J_iand (pc := 7) hX dJ6_bitCount_0f7a4_7 ?_
  refine J_isub (pc := 8) hX dJ6_bitCount_0f7a4_8 ?_
  refine J_leti (fun y1 => ?_)
  refine J_istore_n (pc := 9) hX (lo' := [(0, ji y1)]) (by decide) rfl dJ6_bitCount_0f7a4_9 ?_
  refine J_iload_n (pc := 10) hX 0 rfl dJ6_bitCount_0f7a4_10 ?_
  refine J_ldcw (pc := 11) hX q_J6_266 dJ6_bitCount_0f7a4_11 ?_
  refine J_iand (pc := 14) hX dJ6_bitCount_0f7a4_14 ?_
  refine J_iload_n (pc := 15) hX 0 rfl dJ6_bitCount_0f7a4_15 ?_
  refine J_iconst (pc := 16) hX (v := (2 : Int32)) (by decide) dJ6_bitCount_0f7a4_16 ?_
  refine J_iushr (pc := 17) hX dJ6_bitCount_0f7a4_17 ?_
  refine J_ldcw (pc := 18) hX q_J6_266 dJ6_bitCount_0f7a4_18 ?_
  refine J_iand (pc := 21) hX dJ6_bitCount_0f7a4_21 ?_
  refine J_iadd (pc := 22) hX dJ6_bitCount_0f7a4_22 ?_
  refine J_leti (fun y2 => ?_)
  refine J_istore_n (pc := 23) hX (lo' := [(0, ji y2)]) (by decide) rfl dJ6_bitCount_0f7a4_23 ?_
  refine J_iload_n (pc := 24) hX 0 rfl dJ6_bitCount_0f7a4_24 ?_
  refine J_iload_n (pc := 25) hX 0 rfl dJ6_bitCount_0f7a4_25 ?_
  refine J_iconst (pc := 26) hX (v := (4 : Int32)) (by decide) dJ6_bitCount_0f7a4_26 ?_
  refine J_iushr (pc := 27) hX dJ6_bitCount_0f7a4_27 ?_
  refine J_iadd (pc := 28) hX dJ6_bitCount_0f7a4_28 ?_
  refine J_ldcw (pc := 29) hX q_J6_267 dJ6_bitCount_0f7a4_29 ?_
  refine J_iand (pc := 32) hX dJ6_bitCount_0f7a4_32 ?_
  refine J_leti (fun y3 => ?_)
  refine J_istore_n (pc := 33) hX (lo' := [(0, ji y3)]) (by decide) rfl dJ6_bitCount_0f7a4_33 ?_
  refine J_iload_n (pc := 34) hX 0 rfl dJ6_bitCount_0f7a4_34 ?_
  refine J_iload_n (pc := 35) hX 0 rfl dJ6_bitCount_0f7a4_35 ?_
  refine J_bipush (pc := 36) hX (v := (8 : Int32)) (by decide) dJ6_bitCount_0f7a4_36 ?_
  refine J_iushr (pc := 38) hX dJ6_bitCount_0f7a4_38 ?_
  refine J_iadd (pc := 39) hX dJ6_bitCount_0f7a4_39 ?_
  refine J_leti (fun y4 => ?_)
  refine J_istore_n (pc := 40) hX (lo' := [(0, ji y4)]) (by decide) rfl dJ6_bitCount_0f7a4_40 ?_
  refine J_iload_n (pc := 41) hX 0 rfl dJ6_bitCount_0f7a4_41 ?_
  refine J_iload_n (pc := 42) hX 0 rfl dJ6_bitCount_0f7a4_42 ?_
  refine J_bipush (pc := 43) hX (v := (16 : Int32)) (by decide) dJ6_bitCount_0f7a4_43 ?_
  refine J_iushr (pc := 45) hX dJ6_bitCount_0f7a4_45 ?_
  refine J_iadd (pc := 46) hX dJ6_bitCount_0f7a4_46 ?_
  refine J_leti (fun y5 => ?_)
  refine J_istore_n (pc := 47) hX (lo' := [(0, ji y5)]) (by decide) rfl dJ6_bitCount_0f7a4_47 ?_
  refine J_iload_n (pc := 48) hX 0 rfl dJ6_bitCount_0f7a4_48 ?_
  refine J_bipush (pc := 49) hX (v := (63 : Int32)) (by decide) dJ6_bitCount_0f7a4_49 ?_
  refine J_iand (pc := 51) hX dJ6_bitCount_0f7a4_51 ?_
  exact J_iret (pc := 52) hX (hQ _) dJ6_bitCount_0f7a4_52
theorem C_J6_bitCount_0f7a4 (Y : jY) (hz0 : Y.zf = false) (p0 : Int32) (I0 : jI) (L0 : jL) (r : Int32) (h : J6_bitCount_0f7a4 p0 = some r) : jMet Y yJ6_bitCount_0f7a4 cJ6_bitCount_0f7a4 1 (some .int) 1 80 0 0 [ji p0] NC shC rfC I0 L0 (some (ji r)) NC shC rfC I0 L0 :=
  jmet_ofF _ _ h (fun Z r => jQ Y Z 0 0 (some (ji r)) NC shC rfC I0 L0) (fun _ => rfl) (by decide +kernel) (Nat.le_of_ble_eq_true rfl) (fun Z hX => W_J6_bitCount_0f7a4 hz0 p0 I0 L0 hX (fun _ => rfl))
def X4_nearestWith_F1 (t0 : Nat) (p0 : Int32) (I0 : jI) (g2 : Int32 → Option (Nat)) : Int32 → Option (Nat) := fun (v1 : Int32) =>
if (I0 t0 1) < v1 then (
some 0)
else (
(X4_levelAt t0 v1 I0).bind (fun (x4 : Nat) =>
jlet (
g2 (v1 + (1 : Int32))) (fun (k7 : Option (Nat)) =>
if x4 = 0 then (
k7)
else (
(X2_slotOf x4 p0 I0).bind (fun (y9 : Int32) =>
if y9 = (-1 : Int32) then (
k7)
else (
some x4))))))
def X4_nearestWith (t0 : Nat) (p0 : Int32) (I0 : jI) : Option (Nat) :=
jfx (X4_nearestWith_F1 t0 p0 I0) (fun _ => none) 1000 (1 : Int32)
set_option maxRecDepth 20000 in
set_option maxHeartbeats 4000000 in
theorem W_X4_nearestWith {Y : jY} {Z : jZ} {Qf : Nat → State → Prop} (hz0 : Y.zf = false) (t0 : Nat) (ht0 : shC t0 = 5) (p0 : Int32) (I0 : jI) (L0 : jL) (hX : jOK Y Z RX4 cX4_nearestWith 4 "nearestWith" (some (.object "PageLevels$Level")) 2 101 0 0) (hQ : ∀ r : Nat, Qf r = jQ Y Z 0 0 (some (jr r)) NC shC rfC I0 L0) : J Y Z 4 Qf (X4_nearestWith t0 p0 I0) 0 [(0, jr t0), (1, ji p0)] [] 0 0 NC shC rfC I0 L0 := by
  unfold X4_nearestWith
  refine J_iconst (pc := 0) hX (v := (1 : Int32)) (by decide) dX4_nearestWith_0 ?_
  refine J_istore_n (pc := 1) hX (lo' := [(2, ji (1 : Int32)), (0, jr t0), (1, ji p0)]) (by decide) rfl dX4_nearestWith_1 ?_
  have lhg2 : ∀ mq : Nat, ∀ (v1 : Int32), J Y Z 4 Qf (jfx (X4_nearestWith_F1 t0 p0 I0) (fun _ => none) mq v1) 2 [(0, jr t0), (1, ji p0), (2, ji v1)] [] 0 0 NC shC rfC I0 L0 := by
    intro mq
    refine jfx_J (fun (_ : Nat) (g2 : Int32 → Option (Nat)) => ∀ (v1 : Int32), J Y Z 4 Qf (g2 v1) 2 [(0, jr t0), (1, ji p0), (2, ji v1)] [] 0 0 NC shC rfC I0 L0) ?_ (fun _ g2 hg2 => ?_) mq
    · intro v1
      exact J_none
    intro v1
    unfold X4_nearestWith_F1
    try dsimp only
    refine J_iload_n (pc := 2) hX 2 rfl dX4_nearestWith_2 ?_
    refine J_aload_n (pc := 3) hX 0 rfl dX4_nearestWith_3 ?_
    refine g_X4_43 (pc := 4) hX ht0 dX4_nearestWith_4 ?_
    refine J_icmp_gt (pc := 7) hX (tgt := 37) (by decide) dX4_nearestWith_7 (fun h3 => ?_) (fun h3 => ?_)
    · refine J_null (pc := 37) hX dX4_nearestWith_37 ?_
      exact J_aret (pc := 38) hX (hQ _) dX4_nearestWith_38
    · refine J_aload_n (pc := 10) hX 0 rfl dX4_nearestWith_10 ?_
      refine J_iload_n (pc := 11) hX 2 rfl dX4_nearestWith_11 ?_
      refine J_call1 (fun x4 e5 => ?_)
      refine jrun_r (pc := 12) (jRunV hX s_X4_46 (ci := 4) (T := TX4) (N := 18) (As := [ji v1]) (rest := []) rfl (by decide) (C_X4_levelAt Y hz0 t0 ht0 v1 I0 L0 x4 e5) ht0 rfl rfl ⟨by decide, by decide⟩ ⟨Nat.le_of_ble_eq_true rfl, Nat.le_of_ble_eq_true rfl⟩ (Nat.le_of_ble_eq_true rfl) dX4_nearestWith_12) ?_
      have t6 := T_X4_levelAt t0 ht0 v1 I0 e5
      refine J_astore_n (pc := 15) hX (lo' := [(3, jr x4), (0, jr t0), (1, ji p0), (2, ji v1)]) (by decide) rfl dX4_nearestWith_15 ?_
      refine J_aload_n (pc := 16) hX 0 rfl dX4_nearestWith_16 ?_
      refine J_join (fun (k7 : Option (Nat)) => J Y Z 4 Qf (k7) 31 [(0, jr t0), (1, ji p0), (2, ji v1)] [] 0 0 NC shC rfC I0 L0) ?_ (fun k7 hk7 => ?_)
      · refine J_iinc (pc := 31) hX (v := (v1 + (1 : Int32))) (lo' := [(2, ji (v1 + (1 : Int32))), (0, jr t0), (1, ji p0)]) 2 rfl (by rfl) (by decide) rfl dX4_nearestWith_31 ?_
        refine J_goto (pc := 34) hX (tgt := 2) (by decide) dX4_nearestWith_34 ?_
        refine J_sub [1, 2, 0] rfl ?_
        exact hg2 (v1 + (1 : Int32))
      refine J_ifnull (pc := 17) hX (tgt := 31) (by decide) dX4_nearestWith_17 (fun h8 => ?_) (fun h8 => ?_)
      · refine J_sub [1, 2, 3] rfl ?_
        exact hk7
      · refine J_aload_n (pc := 20) hX 0 rfl dX4_nearestWith_20 ?_
        refine J_iload_n (pc := 21) hX 2 rfl dX4_nearestWith_21 ?_
        refine J_call1 (fun y9 e10 => ?_)
        refine jrun_i (pc := 22) (jRunV hX s_X4_135 (ci := 2) (T := TX2) (N := 19) (As := [ji p0]) (rest := []) rfl (by decide) (C_X2_slotOf Y hz0 x4 (t6.resolve_left h8) p0 I0 L0 y9 e10) (t6.resolve_left h8) rfl rfl ⟨by decide, by decide⟩ ⟨Nat.le_of_ble_eq_true rfl, Nat.le_of_ble_eq_true rfl⟩ (Nat.le_of_ble_eq_true rfl) dX4_nearestWith_22) ?_
        refine J_iconst (pc := 25) hX (v := (-1 : Int32)) (by decide) dX4_nearestWith_25 ?_
        refine J_icmp_eq (pc := 26) hX (tgt := 31) (by decide) dX4_nearestWith_26 (fun h11 => ?_) (fun h11 => ?_)
        · refine J_sub [1, 2, 3] rfl ?_
          exact hk7
        · refine J_aload_n (pc := 29) hX 0 rfl dX4_nearestWith_29 ?_
          exact J_aret (pc := 30) hX (hQ _) dX4_nearestWith_30
  refine J_sub [1, 2, 0] rfl ?_
  exact lhg2 1000 (1 : Int32)
theorem C_X4_nearestWith (Y : jY) (hz0 : Y.zf = false) (t0 : Nat) (ht0 : shC t0 = 5) (p0 : Int32) (I0 : jI) (L0 : jL) (r : Nat) (h : X4_nearestWith t0 p0 I0 = some r) : jMet Y yX4_nearestWith cX4_nearestWith 4 (some (.object "PageLevels$Level")) 2 101 0 0 [jr t0, ji p0] NC shC rfC I0 L0 (some (jr r)) NC shC rfC I0 L0 :=
  jmet_of _ _ h (fun Z r => jQ Y Z 0 0 (some (jr r)) NC shC rfC I0 L0) (fun _ => rfl) (by decide) (Nat.le_of_ble_eq_true rfl) (fun Z hX => W_X4_nearestWith hz0 t0 ht0 p0 I0 L0 hX (fun _ => rfl))
theorem T_X4_nearestWith (t0 : Nat) (ht0 : shC t0 = 5) (p0 : Int32) (I0 : jI) {r : Nat} (e : X4_nearestWith t0 p0 I0 = some r) : r = 0 ∨ shC r = 3 := by
  have key : ∀ (m : Nat) (v : Int32), jfx (X4_nearestWith_F1 t0 p0 I0) (fun _ => none) m v = some r → r = 0 ∨ shC r = 3 := by
    intro m
    induction m with
    | zero => intro v h; cases h
    | succ m ih =>
      intro v h
      have h : X4_nearestWith_F1 t0 p0 I0 (jfx (X4_nearestWith_F1 t0 p0 I0) (fun _ => none) m) v = some r := h
      unfold X4_nearestWith_F1 at h
      split at h
      · cases h; exact Or.inl rfl
      · rw [Option.bind_eq_some_iff] at h
        obtain ⟨x, hx, h⟩ := h
        unfold jlet at h
        split at h
        · exact ih _ h
        · rw [Option.bind_eq_some_iff] at h
          obtain ⟨y, -, h⟩ := h
          split at h
          · exact ih _ h
          · cases h
            exact T_X4_levelAt t0 ht0 _ _ hx
  exact key 1000 _ e
def X4_differs (t0 : Nat) (p0 : Int32) (p1 : Int32) (I0 : jI) : Option (Int32) :=
if p1 = (2 : Int32) then (
(X4_levelsWith t0 p0 I0).bind (fun (y18 : Int32) =>
(J6_bitCount_0f7a4 y18).bind (fun (y20 : Int32) =>
if y20 ≤ (1 : Int32) then (
some (0 : Int32))
else (
some (1 : Int32)))))
else (
if p1 = (1 : Int32) then (
(X4_nearestDirty t0 (1 : Int32) (I0 t0 1) p0 I0).bind (fun (x14 : Nat) =>
if x14 = 0 then (
some (0 : Int32))
else (
some (1 : Int32))))
else (
(X4_nearestWith t0 p0 I0).bind (fun (x3 : Nat) =>
if x3 = 0 then (
some (0 : Int32))
else (
(X2_slotOf x3 p0 I0).bind (fun (y7 : Int32) =>
(X2_valueIn x3 y7 I0).bind (fun (y9 : Int32) =>
(X4_inMemory t0 p0 I0).bind (fun (y11 : Int32) =>
if y9 = y11 then (
some (0 : Int32))
else (
some (1 : Int32)))))))))
set_option maxRecDepth 20000 in
set_option maxHeartbeats 4000000 in
theorem W_X4_differs {Y : jY} {Z : jZ} {Qf : Int32 → State → Prop} (hz0 : Y.zf = false) (t0 : Nat) (ht0 : shC t0 = 5) (p0 : Int32) (p1 : Int32) (I0 : jI) (L0 : jL) (hX : jOK Y Z RX4 cX4_differs 4 "differs" (some .boolean) 3 126 0 0) (hQ : ∀ r : Int32, Qf r = jQ Y Z 0 0 (some (ji r)) NC shC rfC I0 L0) : J Y Z 4 Qf (X4_differs t0 p0 p1 I0) 0 [(0, jr t0), (1, ji p0), (2, ji p1)] [] 0 0 NC shC rfC I0 L0 := by
  unfold X4_differs
  refine J_iload_n (pc := 0) hX 2 rfl dX4_differs_0 ?_
  refine J_iconst (pc := 1) hX (v := (2 : Int32)) (by decide) dX4_differs_1 ?_
  refine J_icmp_ne (pc := 2) hX (tgt := 23) (by decide) dX4_differs_2 (fun h1 => ?_) (fun h1 => ?_)
  · refine J_iload_n (pc := 23) hX 2 rfl dX4_differs_23 ?_
    refine J_iconst (pc := 24) hX (v := (1 : Int32)) (by decide) dX4_differs_24 ?_
    refine J_icmp_ne (pc := 25) hX (tgt := 47) (by decide) dX4_differs_25 (fun h2 => ?_) (fun h2 => ?_)
    · refine J_aload_n (pc := 47) hX 0 rfl dX4_differs_47 ?_
      refine J_iload_n (pc := 48) hX 1 rfl dX4_differs_48 ?_
      refine J_call1 (fun x3 e4 => ?_)
      refine jrun_r (pc := 49) (jRunV hX s_X4_230 (ci := 4) (T := TX4) (N := 18) (As := [ji p0]) (rest := []) rfl (by decide) (C_X4_nearestWith Y hz0 t0 ht0 p0 I0 L0 x3 e4) ht0 rfl rfl ⟨by decide, by decide⟩ ⟨Nat.le_of_ble_eq_true rfl, Nat.le_of_ble_eq_true rfl⟩ (Nat.le_of_ble_eq_true rfl) dX4_differs_49) ?_
      have t5 := T_X4_nearestWith t0 ht0 p0 I0 e4
      refine J_astore_n (pc := 52) hX (lo' := [(3, jr x3), (0, jr t0), (1, ji p0), (2, ji p1)]) (by decide) rfl dX4_differs_52 ?_
      refine J_aload_n (pc := 53) hX 0 rfl dX4_differs_53 ?_
      refine J_ifnull (pc := 54) hX (tgt := 78) (by decide) dX4_differs_54 (fun h6 => ?_) (fun h6 => ?_)
      · refine J_iconst (pc := 78) hX (v := (0 : Int32)) (by decide) dX4_differs_78 ?_
        exact J_zret (pc := 79) hX (by decide) (hQ _) dX4_differs_79
      · refine J_aload_n (pc := 57) hX 0 rfl dX4_differs_57 ?_
        refine J_aload_n (pc := 58) hX 0 rfl dX4_differs_58 ?_
        refine J_iload_n (pc := 59) hX 2 rfl dX4_differs_59 ?_
        refine J_call1 (fun y7 e8 => ?_)
        refine jrun_i (pc := 60) (jRunV hX s_X4_135 (ci := 2) (T := TX2) (N := 19) (As := [ji p0]) (rest := [jr x3]) rfl (by decide) (C_X2_slotOf Y hz0 x3 (t5.resolve_left h6) p0 I0 L0 y7 e8) (t5.resolve_left h6) rfl rfl ⟨by decide, by decide⟩ ⟨Nat.le_of_ble_eq_true rfl, Nat.le_of_ble_eq_true rfl⟩ (Nat.le_of_ble_eq_true rfl) dX4_differs_60) ?_
        refine J_call1 (fun y9 e10 => ?_)
        refine jrun_i (pc := 63) (jRunV hX s_X4_144 (ci := 2) (T := TX2) (N := 19) (As := [ji y7]) (rest := []) rfl (by decide) (C_X2_valueIn Y hz0 x3 (t5.resolve_left h6) y7 I0 L0 y9 e10) (t5.resolve_left h6) rfl rfl ⟨by decide, by decide⟩ ⟨Nat.le_of_ble_eq_true rfl, Nat.le_of_ble_eq_true rfl⟩ (Nat.le_of_ble_eq_true rfl) dX4_differs_63) ?_
        refine J_aload_n (pc := 66) hX 1 rfl dX4_differs_66 ?_
        refine J_iload_n (pc := 67) hX 2 rfl dX4_differs_67 ?_
        refine J_call1 (fun y11 e12 => ?_)
        refine jrun_i (pc := 68) (jRunV hX s_X4_125 (ci := 4) (T := TX4) (N := 18) (As := [ji p0]) (rest := [ji y9]) rfl (by decide) (C_X4_inMemory Y hz0 t0 ht0 p0 I0 L0 y11 e12) ht0 rfl rfl ⟨by decide, by decide⟩ ⟨Nat.le_of_ble_eq_true rfl, Nat.le_of_ble_eq_true rfl⟩ (Nat.le_of_ble_eq_true rfl) dX4_differs_68) ?_
        refine J_icmp_eq (pc := 71) hX (tgt := 78) (by decide) dX4_differs_71 (fun h13 => ?_) (fun h13 => ?_)
        · refine J_iconst (pc := 78) hX (v := (0 : Int32)) (by decide) dX4_differs_78 ?_
          exact J_zret (pc := 79) hX (by decide) (hQ _) dX4_differs_79
        · refine J_iconst (pc := 74) hX (v := (1 : Int32)) (by decide) dX4_differs_74 ?_
          refine J_goto (pc := 75) hX (tgt := 79) (by decide) dX4_differs_75 ?_
          exact J_zret (pc := 79) hX (by decide) (hQ _) dX4_differs_79
    · refine J_aload_n (pc := 28) hX 0 rfl dX4_differs_28 ?_
      refine J_iconst (pc := 29) hX (v := (1 : Int32)) (by decide) dX4_differs_29 ?_
      refine J_aload_n (pc := 30) hX 0 rfl dX4_differs_30 ?_
      refine g_X4_43 (pc := 31) hX ht0 dX4_differs_31 ?_
      refine J_iload_n (pc := 34) hX 1 rfl dX4_differs_34 ?_
      refine J_call1 (fun x14 e15 => ?_)
      refine jrun_r (pc := 35) (jRunV hX s_X4_208 (ci := 4) (T := TX4) (N := 18) (As := [ji (1 : Int32), ji (I0 t0 1), ji p0]) (rest := []) rfl (by decide) (C_X4_nearestDirty Y hz0 t0 ht0 (1 : Int32) (I0 t0 1) p0 I0 L0 x14 e15) ht0 rfl rfl ⟨by decide, by decide⟩ ⟨Nat.le_of_ble_eq_true rfl, Nat.le_of_ble_eq_true rfl⟩ (Nat.le_of_ble_eq_true rfl) dX4_differs_35) ?_
      have t16 := T_X4_nearestDirty t0 ht0 (1 : Int32) (I0 t0 1) p0 I0 e15
      refine J_ifnull (pc := 38) hX (tgt := 45) (by decide) dX4_differs_38 (fun h17 => ?_) (fun h17 => ?_)
      · refine J_iconst (pc := 45) hX (v := (0 : Int32)) (by decide) dX4_differs_45 ?_
        exact J_zret (pc := 46) hX (by decide) (hQ _) dX4_differs_46
      · refine J_iconst (pc := 41) hX (v := (1 : Int32)) (by decide) dX4_differs_41 ?_
        refine J_goto (pc := 42) hX (tgt := 46) (by decide) dX4_differs_42 ?_
        exact J_zret (pc := 46) hX (by decide) (hQ _) dX4_differs_46
  · refine J_aload_n (pc := 5) hX 0 rfl dX4_differs_5 ?_
    refine J_iload_n (pc := 6) hX 1 rfl dX4_differs_6 ?_
    refine J_call1 (fun y18 e19 => ?_)
    refine jrun_i (pc := 7) (jRunV hX s_X4_122 (ci := 4) (T := TX4) (N := 18) (As := [ji p0]) (rest := []) rfl (by decide) (C_X4_levelsWith Y hz0 t0 ht0 p0 I0 L0 y18 e19) ht0 rfl rfl ⟨by decide, by decide⟩ ⟨Nat.le_of_ble_eq_true rfl, Nat.le_of_ble_eq_true rfl⟩ (Nat.le_of_ble_eq_true rfl) dX4_differs_7) ?_
    refine J_call1 (fun y20 e21 => ?_)
    refine jrun_i (pc := 10) (jRunS hX s_X4_225 (As := [ji y18]) (rest := []) (C_J6_bitCount_0f7a4 Y hz0 y18 I0 L0 y20 e21) rfl rfl ⟨by decide, by decide⟩ ⟨Nat.le_of_ble_eq_true rfl, Nat.le_of_ble_eq_true rfl⟩ (Nat.le_of_ble_eq_true rfl) dX4_differs_10) ?_
    refine J_iconst (pc := 13) hX (v := (1 : Int32)) (by decide) dX4_differs_13 ?_
    refine J_icmp_le (pc := 14) hX (tgt := 21) (by decide) dX4_differs_14 (fun h22 => ?_) (fun h22 => ?_)
    · refine J_iconst (pc := 21) hX (v := (0 : Int32)) (by decide) dX4_differs_21 ?_
      exact J_zret (pc := 22) hX (by decide) (hQ _) dX4_differs_22
    · refine J_iconst (pc := 17) hX (v := (1 : Int32)) (by decide) dX4_differs_17 ?_
      refine J_goto (pc := 18) hX (tgt := 22) (by decide) dX4_differs_18 ?_
      exact J_zret (pc := 22) hX (by decide) (hQ _) dX4_differs_22
theorem C_X4_differs (Y : jY) (hz0 : Y.zf = false) (t0 : Nat) (ht0 : shC t0 = 5) (p0 : Int32) (p1 : Int32) (I0 : jI) (L0 : jL) (r : Int32) (h : X4_differs t0 p0 p1 I0 = some r) : jMet Y yX4_differs cX4_differs 4 (some .boolean) 3 126 0 0 [jr t0, ji p0, ji p1] NC shC rfC I0 L0 (some (ji r)) NC shC rfC I0 L0 :=
  jmet_of _ _ h (fun Z r => jQ Y Z 0 0 (some (ji r)) NC shC rfC I0 L0) (fun _ => rfl) (by decide) (Nat.le_of_ble_eq_true rfl) (fun Z hX => W_X4_differs hz0 t0 ht0 p0 p1 I0 L0 hX (fun _ => rfl))
def X4_keepsMode_F1 (t0 : Nat) (I0 : jI) (g2 : Int32 → Option (Int32)) : Int32 → Option (Int32) := fun (v1 : Int32) =>
if (64 : Int32) ≤ v1 then (
some (1 : Int32))
else (
(X4_levelsWith t0 v1 I0).bind (fun (y4 : Int32) =>
jlet (
jlet (
g2 (v1 + (1 : Int32))) (fun (k7 : Option (Int32)) =>
if (I0 t0 4) = (2 : Int32) then (
(J6_bitCount_0f7a4 y4).bind (fun (y9 : Int32) =>
if y9 ≤ (1 : Int32) then (
k7)
else (
some (0 : Int32))))
else (
k7))) (fun (k6 : Option (Int32)) =>
if (I0 t0 4) = (1 : Int32) then (
if y4 = 0 then (
k6)
else (
if (((y4 <<< ((1 : Int32) &&& 31)) &&& (y4 ^^^ (-1 : Int32))) &&& (((1 : Int32) <<< ((I0 t0 1) &&& 31)) - (1 : Int32))) = 0 then (
k6)
else (
some (0 : Int32))))
else (
k6))))
def X4_keepsMode (t0 : Nat) (I0 : jI) : Option (Int32) :=
jfx (X4_keepsMode_F1 t0 I0) (fun _ => none) 1000 (0 : Int32)
set_option maxRecDepth 20000 in
set_option maxHeartbeats 4000000 in
theorem W_X4_keepsMode {Y : jY} {Z : jZ} {Qf : Int32 → State → Prop} (hz0 : Y.zf = false) (t0 : Nat) (ht0 : shC t0 = 5) (I0 : jI) (L0 : jL) (hX : jOK Y Z RX4 cX4_keepsMode 3 "keepsMode" (some .boolean) 3 125 0 0) (hQ : ∀ r : Int32, Qf r = jQ Y Z 0 0 (some (ji r)) NC shC rfC I0 L0) : J Y Z 3 Qf (X4_keepsMode t0 I0) 0 [(0, jr t0)] [] 0 0 NC shC rfC I0 L0 := by
  unfold X4_keepsMode
  refine J_iconst (pc := 0) hX (v := (0 : Int32)) (by decide) dX4_keepsMode_0 ?_
  refine J_istore_n (pc := 1) hX (lo' := [(1, ji (0 : Int32)), (0, jr t0)]) (by decide) rfl dX4_keepsMode_1 ?_
  have lhg2 : ∀ mq : Nat, ∀ (v1 : Int32), J Y Z 3 Qf (jfx (X4_keepsMode_F1 t0 I0) (fun _ => none) mq v1) 2 [(0, jr t0), (1, ji v1)] [] 0 0 NC shC rfC I0 L0 := by
    intro mq
    refine jfx_J (fun (_ : Nat) (g2 : Int32 → Option (Int32)) => ∀ (v1 : Int32), J Y Z 3 Qf (g2 v1) 2 [(0, jr t0), (1, ji v1)] [] 0 0 NC shC rfC I0 L0) ?_ (fun _ g2 hg2 => ?_) mq
    · intro v1
      exact J_none
    intro v1
    unfold X4_keepsMode_F1
    try dsimp only
    refine J_iload_n (pc := 2) hX 1 rfl dX4_keepsMode_2 ?_
    refine J_bipush (pc := 3) hX (v := (64 : Int32)) (by decide) dX4_keepsMode_3 ?_
    refine J_icmp_ge (pc := 5) hX (tgt := 71) (by decide) dX4_keepsMode_5 (fun h3 => ?_) (fun h3 => ?_)
    · refine J_iconst (pc := 71) hX (v := (1 : Int32)) (by decide) dX4_keepsMode_71 ?_
      exact J_zret (pc := 72) hX (by decide) (hQ _) dX4_keepsMode_72
    · refine J_aload_n (pc := 8) hX 0 rfl dX4_keepsMode_8 ?_
      refine J_iload_n (pc := 9) hX 1 rfl dX4_keepsMode_9 ?_
      refine J_call1 (fun y4 e5 => ?_)
      refine jrun_i (pc := 10) (jRunV hX s_X4_122 (ci := 4) (T := TX4) (N := 18) (As := [ji v1]) (rest := []) rfl (by decide) (C_X4_levelsWith Y hz0 t0 ht0 v1 I0 L0 y4 e5) ht0 rfl rfl ⟨by decide, by decide⟩ ⟨Nat.le_of_ble_eq_true rfl, Nat.le_of_ble_eq_true rfl⟩ (Nat.le_of_ble_eq_true rfl) dX4_keepsMode_10) ?_
      refine J_istore_n (pc := 13) hX (lo' := [(2, ji y4), (0, jr t0), (1, ji v1)]) (by decide) rfl dX4_keepsMode_13 ?_
      refine J_aload_n (pc := 14) hX 1 rfl dX4_keepsMode_14 ?_
      refine g_X4_60 (pc := 15) hX ht0 dX4_keepsMode_15 ?_
      refine J_iconst (pc := 18) hX (v := (1 : Int32)) (by decide) dX4_keepsMode_18 ?_
      refine J_join (fun (k6 : Option (Int32)) => J Y Z 3 Qf (k6) 47 [(0, jr t0), (1, ji v1), (2, ji y4)] [] 0 0 NC shC rfC I0 L0) ?_ (fun k6 hk6 => ?_)
      · refine J_aload_n (pc := 47) hX 0 rfl dX4_keepsMode_47 ?_
        refine g_X4_60 (pc := 48) hX ht0 dX4_keepsMode_48 ?_
        refine J_iconst (pc := 51) hX (v := (2 : Int32)) (by decide) dX4_keepsMode_51 ?_
        refine J_join (fun (k7 : Option (Int32)) => J Y Z 3 Qf (k7) 65 [(0, jr t0), (1, ji v1)] [] 0 0 NC shC rfC I0 L0) ?_ (fun k7 hk7 => ?_)
        · refine J_iinc (pc := 65) hX (v := (v1 + (1 : Int32))) (lo' := [(1, ji (v1 + (1 : Int32))), (0, jr t0)]) 1 rfl (by rfl) (by decide) rfl dX4_keepsMode_65 ?_
          refine J_goto (pc := 68) hX (tgt := 2) (by decide) dX4_keepsMode_68 ?_
          refine J_sub [1, 0] rfl ?_
          exact hg2 (v1 + (1 : Int32))
        refine J_icmp_ne (pc := 52) hX (tgt := 65) (by decide) dX4_keepsMode_52 (fun h8 => ?_) (fun h8 => ?_)
        · refine J_sub [0, 1] rfl ?_
          exact hk7
        · refine J_iload_n (pc := 55) hX 2 rfl dX4_keepsMode_55 ?_
          refine J_call1 (fun y9 e10 => ?_)
          refine jrun_i (pc := 56) (jRunS hX s_X4_225 (As := [ji y4]) (rest := []) (C_J6_bitCount_0f7a4 Y hz0 y4 I0 L0 y9 e10) rfl rfl ⟨by decide, by decide⟩ ⟨Nat.le_of_ble_eq_true rfl, Nat.le_of_ble_eq_true rfl⟩ (Nat.le_of_ble_eq_true rfl) dX4_keepsMode_56) ?_
          refine J_iconst (pc := 59) hX (v := (1 : Int32)) (by decide) dX4_keepsMode_59 ?_
          refine J_icmp_le (pc := 60) hX (tgt := 65) (by decide) dX4_keepsMode_60 (fun h11 => ?_) (fun h11 => ?_)
          · refine J_sub [0, 1] rfl ?_
            exact hk7
          · refine J_iconst (pc := 63) hX (v := (0 : Int32)) (by decide) dX4_keepsMode_63 ?_
            exact J_zret (pc := 64) hX (by decide) (hQ _) dX4_keepsMode_64
      refine J_icmp_ne (pc := 19) hX (tgt := 47) (by decide) dX4_keepsMode_19 (fun h12 => ?_) (fun h12 => ?_)
      · refine J_sub [1, 2, 0] rfl ?_
        exact hk6
      · refine J_iload_n (pc := 22) hX 0 rfl dX4_keepsMode_22 ?_
        refine J_if_eq (pc := 23) hX (tgt := 47) (by decide) dX4_keepsMode_23 (fun h13 => ?_) (fun h13 => ?_)
        · refine J_sub [1, 2, 0] rfl ?_
          exact hk6
        · refine J_iload_n (pc := 26) hX 0 rfl dX4_keepsMode_26 ?_
          refine J_iconst (pc := 27) hX (v := (1 : Int32)) (by decide) dX4_keepsMode_27 ?_
          refine J_ishl (pc := 28) hX dX4_keepsMode_28 ?_
          refine J_iload_n (pc := 29) hX 0 rfl dX4_keepsMode_29 ?_
          refine J_iconst (pc := 30) hX (v := (-1 : Int32)) (by decide) dX4_keepsMode_30 ?_
          refine J_ixor (pc := 31) hX dX4_keepsMode_31 ?_
          refine J_iand (pc := 32) hX dX4_keepsMode_32 ?_
          refine J_iconst (pc := 33) hX (v := (1 : Int32)) (by decide) dX4_keepsMode_33 ?_
          refine J_aload_n (pc := 34) hX 1 rfl dX4_keepsMode_34 ?_
          refine g_X4_43 (pc := 35) hX ht0 dX4_keepsMode_35 ?_
          refine J_ishl (pc := 38) hX dX4_keepsMode_38 ?_
          refine J_iconst (pc := 39) hX (v := (1 : Int32)) (by decide) dX4_keepsMode_39 ?_
          refine J_isub (pc := 40) hX dX4_keepsMode_40 ?_
          refine J_iand (pc := 41) hX dX4_keepsMode_41 ?_
          refine J_if_eq (pc := 42) hX (tgt := 47) (by decide) dX4_keepsMode_42 (fun h14 => ?_) (fun h14 => ?_)
          · refine J_sub [1, 2, 0] rfl ?_
            exact hk6
          · refine J_iconst (pc := 45) hX (v := (0 : Int32)) (by decide) dX4_keepsMode_45 ?_
            exact J_zret (pc := 46) hX (by decide) (hQ _) dX4_keepsMode_46
  refine J_sub [1, 0] rfl ?_
  exact lhg2 1000 (0 : Int32)
theorem C_X4_keepsMode (Y : jY) (hz0 : Y.zf = false) (t0 : Nat) (ht0 : shC t0 = 5) (I0 : jI) (L0 : jL) (r : Int32) (h : X4_keepsMode t0 I0 = some r) : jMet Y yX4_keepsMode cX4_keepsMode 3 (some .boolean) 3 125 0 0 [jr t0] NC shC rfC I0 L0 (some (ji r)) NC shC rfC I0 L0 :=
  jmet_of _ _ h (fun Z r => jQ Y Z 0 0 (some (ji r)) NC shC rfC I0 L0) (fun _ => rfl) (by decide) (Nat.le_of_ble_eq_true rfl) (fun Z hX => W_X4_keepsMode hz0 t0 ht0 I0 L0 hX (fun _ => rfl))
def X5_isFull (t0 : Nat) (I0 : jI) : Option (Int32) :=
if (I0 t0 0) < (250 : Int32) then (
some (0 : Int32))
else (
some (1 : Int32))
set_option maxRecDepth 20000 in
set_option maxHeartbeats 4000000 in
theorem W_X5_isFull {Y : jY} {Z : jZ} {Qf : Int32 → State → Prop} (hz0 : Y.zf = false) (t0 : Nat) (ht0 : shC t0 = 6) (I0 : jI) (L0 : jL) (hX : jOK Y Z RX5 cX5_isFull 1 "isFull" (some .boolean) 1 80 0 0) (hQ : ∀ r : Int32, Qf r = jQ Y Z 0 0 (some (ji r)) NC shC rfC I0 L0) : J Y Z 1 Qf (X5_isFull t0 I0) 0 [(0, jr t0)] [] 0 0 NC shC rfC I0 L0 := by
  unfold X5_isFull
  refine J_aload_n (pc := 0) hX 0 rfl dX5_isFull_0 ?_
  refine g_X5_24 (pc := 1) hX ht0 dX5_isFull_1 ?_
  refine J_aload_n (pc := 4) hX 0 rfl dX5_isFull_4 ?_
  refine g_X5_11 (pc := 5) hX ht0 dX5_isFull_5 ?_
  refine J_alen (pc := 8) hX (v := (250 : Int32)) (fs_5_2 t0 ht0) (by decide) dX5_isFull_8 ?_
  refine J_icmp_lt (pc := 9) hX (tgt := 16) (by decide) dX5_isFull_9 (fun h1 => ?_) (fun h1 => ?_)
  · refine J_iconst (pc := 16) hX (v := (0 : Int32)) (by decide) dX5_isFull_16 ?_
    exact J_zret (pc := 17) hX (by decide) (hQ _) dX5_isFull_17
  · refine J_iconst (pc := 12) hX (v := (1 : Int32)) (by decide) dX5_isFull_12 ?_
    refine J_goto (pc := 13) hX (tgt := 17) (by decide) dX5_isFull_13 ?_
    exact J_zret (pc := 17) hX (by decide) (hQ _) dX5_isFull_17
theorem C_X5_isFull (Y : jY) (hz0 : Y.zf = false) (t0 : Nat) (ht0 : shC t0 = 6) (I0 : jI) (L0 : jL) (r : Int32) (h : X5_isFull t0 I0 = some r) : jMet Y yX5_isFull cX5_isFull 1 (some .boolean) 1 80 0 0 [jr t0] NC shC rfC I0 L0 (some (ji r)) NC shC rfC I0 L0 :=
  jmet_of _ _ h (fun Z r => jQ Y Z 0 0 (some (ji r)) NC shC rfC I0 L0) (fun _ => rfl) (by decide) (Nat.le_of_ble_eq_true rfl) (fun Z hX => W_X5_isFull hz0 t0 ht0 I0 L0 hX (fun _ => rfl))
def X5_append (t0 : Nat) (p0 : Int32) (I0 : jI) : Option (jI) :=
(X6_isWithin (I0 t0 0) (0 : Int32) ((250 : Int32) - (1 : Int32))).bind (fun (y1 : Int32) =>
if y1 = 0 then (
some I0)
else (
if jin (I0 t0 0) 250 then jlet (jup I0 (rfC t0 2) ((I0 t0 0)).toNatClampNeg p0) (fun (I5 : jI) =>
jlet (jup I5 t0 0 ((I5 t0 0) + (1 : Int32))) (fun (I6 : jI) =>
some I6)) else none))
set_option maxRecDepth 20000 in
set_option maxHeartbeats 4000000 in
theorem W_X5_append {Y : jY} {Z : jZ} {Qf : jI → State → Prop} (hz0 : Y.zf = false) (t0 : Nat) (ht0 : shC t0 = 6) (p0 : Int32) (I0 : jI) (L0 : jL) (hX : jOK Y Z RX5 cX5_append 2 "append" none 2 102 0 0) (hQ : ∀ r : jI, Qf r = jQ Y Z 0 0 none NC shC rfC r L0) : J Y Z 2 Qf (X5_append t0 p0 I0) 0 [(0, jr t0), (1, ji p0)] [] 0 0 NC shC rfC I0 L0 := by
  unfold X5_append
  refine J_aload_n (pc := 0) hX 0 rfl dX5_append_0 ?_
  refine g_X5_24 (pc := 1) hX ht0 dX5_append_1 ?_
  refine J_iconst (pc := 4) hX (v := (0 : Int32)) (by decide) dX5_append_4 ?_
  refine J_aload_n (pc := 5) hX 0 rfl dX5_append_5 ?_
  refine g_X5_11 (pc := 6) hX ht0 dX5_append_6 ?_
  refine J_alen (pc := 9) hX (v := (250 : Int32)) (fs_5_2 t0 ht0) (by decide) dX5_append_9 ?_
  refine J_iconst (pc := 10) hX (v := (1 : Int32)) (by decide) dX5_append_10 ?_
  refine J_isub (pc := 11) hX dX5_append_11 ?_
  refine J_call1 (fun y1 e2 => ?_)
  refine jrun_i (pc := 12) (jRunSN hX s_X5_28 (As := [ji (I0 t0 0), ji (0 : Int32), ji ((250 : Int32) - (1 : Int32))]) (rest := []) (C_X6_isWithin Y hz0 (I0 t0 0) (0 : Int32) ((250 : Int32) - (1 : Int32)) I0 L0 y1 e2) rfl rfl ⟨by decide, by decide⟩ ⟨Nat.le_of_ble_eq_true rfl, Nat.le_of_ble_eq_true rfl⟩ (Nat.le_of_ble_eq_true rfl) dX5_append_12) ?_
  refine J_if_eq (pc := 15) hX (tgt := 38) (by decide) dX5_append_15 (fun h3 => ?_) (fun h3 => ?_)
  · exact J_vret (pc := 38) hX (hQ _) dX5_append_38
  · refine J_aload_n (pc := 18) hX 0 rfl dX5_append_18 ?_
    refine g_X5_11 (pc := 19) hX ht0 dX5_append_19 ?_
    refine J_aload_n (pc := 22) hX 0 rfl dX5_append_22 ?_
    refine g_X5_24 (pc := 23) hX ht0 dX5_append_23 ?_
    refine J_iload_n (pc := 26) hX 1 rfl dX5_append_26 ?_
    refine J_iast (pc := 27) hX (N := 250) (fs_5_2 t0 ht0) (by decide) dX5_append_27 (fun h4 I5 => ?_)
    refine J_aload_n (pc := 28) hX 0 rfl dX5_append_28 ?_
    refine J_dup (pc := 29) hX rfl dX5_append_29 ?_
    refine g_X5_24 (pc := 30) hX ht0 dX5_append_30 ?_
    refine J_iconst (pc := 33) hX (v := (1 : Int32)) (by decide) dX5_append_33 ?_
    refine J_iadd (pc := 34) hX dX5_append_34 ?_
    refine p_X5_24 (pc := 35) hX ht0 dX5_append_35 (fun I6 => ?_)
    exact J_vret (pc := 38) hX (hQ _) dX5_append_38
theorem C_X5_append (Y : jY) (hz0 : Y.zf = false) (t0 : Nat) (ht0 : shC t0 = 6) (p0 : Int32) (I0 : jI) (L0 : jL) (I1 : jI) (h : X5_append t0 p0 I0 = some I1) : jMet Y yX5_append cX5_append 2 none 2 102 0 0 [jr t0, ji p0] NC shC rfC I0 L0 none NC shC rfC I1 L0 :=
  jmet_of _ _ h (fun Z r => jQ Y Z 0 0 none NC shC rfC r L0) (fun _ => rfl) (by decide) (Nat.le_of_ble_eq_true rfl) (fun Z hX => W_X5_append hz0 t0 ht0 p0 I0 L0 hX (fun _ => rfl))
def X5_letterOf (t0 : Nat) (p0 : Int32) (I0 : jI) : Option (Int32) :=
(X6_isWithin p0 (0 : Int32) ((30 : Int32) - (1 : Int32))).bind (fun (y1 : Int32) =>
if y1 = 0 then (
some (-1 : Int32))
else (
if jin p0 30 then (
some (I0 (rfC t0 3) (p0).toNatClampNeg)) else none))
set_option maxRecDepth 20000 in
set_option maxHeartbeats 4000000 in
theorem W_X5_letterOf {Y : jY} {Z : jZ} {Qf : Int32 → State → Prop} (hz0 : Y.zf = false) (t0 : Nat) (ht0 : shC t0 = 6) (p0 : Int32) (I0 : jI) (L0 : jL) (hX : jOK Y Z RX5 cX5_letterOf 2 "letterOf" (some .int) 2 102 0 0) (hQ : ∀ r : Int32, Qf r = jQ Y Z 0 0 (some (ji r)) NC shC rfC I0 L0) : J Y Z 2 Qf (X5_letterOf t0 p0 I0) 0 [(0, jr t0), (1, ji p0)] [] 0 0 NC shC rfC I0 L0 := by
  unfold X5_letterOf
  refine J_iload_n (pc := 0) hX 1 rfl dX5_letterOf_0 ?_
  refine J_iconst (pc := 1) hX (v := (0 : Int32)) (by decide) dX5_letterOf_1 ?_
  refine J_aload_n (pc := 2) hX 0 rfl dX5_letterOf_2 ?_
  refine g_X5_15 (pc := 3) hX ht0 dX5_letterOf_3 ?_
  refine J_alen (pc := 6) hX (v := (30 : Int32)) (fs_5_3 t0 ht0) (by decide) dX5_letterOf_6 ?_
  refine J_iconst (pc := 7) hX (v := (1 : Int32)) (by decide) dX5_letterOf_7 ?_
  refine J_isub (pc := 8) hX dX5_letterOf_8 ?_
  refine J_call1 (fun y1 e2 => ?_)
  refine jrun_i (pc := 9) (jRunSN hX s_X5_28 (As := [ji p0, ji (0 : Int32), ji ((30 : Int32) - (1 : Int32))]) (rest := []) (C_X6_isWithin Y hz0 p0 (0 : Int32) ((30 : Int32) - (1 : Int32)) I0 L0 y1 e2) rfl rfl ⟨by decide, by decide⟩ ⟨Nat.le_of_ble_eq_true rfl, Nat.le_of_ble_eq_true rfl⟩ (Nat.le_of_ble_eq_true rfl) dX5_letterOf_9) ?_
  refine J_if_eq (pc := 12) hX (tgt := 24) (by decide) dX5_letterOf_12 (fun h3 => ?_) (fun h3 => ?_)
  · refine J_iconst (pc := 24) hX (v := (-1 : Int32)) (by decide) dX5_letterOf_24 ?_
    exact J_iret (pc := 25) hX (hQ _) dX5_letterOf_25
  · refine J_aload_n (pc := 15) hX 0 rfl dX5_letterOf_15 ?_
    refine g_X5_15 (pc := 16) hX ht0 dX5_letterOf_16 ?_
    refine J_iload_n (pc := 19) hX 1 rfl dX5_letterOf_19 ?_
    refine J_iald (pc := 20) hX (N := 30) (fs_5_3 t0 ht0) (by decide) dX5_letterOf_20 (fun h4 => ?_)
    refine J_goto (pc := 21) hX (tgt := 25) (by decide) dX5_letterOf_21 ?_
    exact J_iret (pc := 25) hX (hQ _) dX5_letterOf_25
theorem C_X5_letterOf (Y : jY) (hz0 : Y.zf = false) (t0 : Nat) (ht0 : shC t0 = 6) (p0 : Int32) (I0 : jI) (L0 : jL) (r : Int32) (h : X5_letterOf t0 p0 I0 = some r) : jMet Y yX5_letterOf cX5_letterOf 2 (some .int) 2 102 0 0 [jr t0, ji p0] NC shC rfC I0 L0 (some (ji r)) NC shC rfC I0 L0 :=
  jmet_of _ _ h (fun Z r => jQ Y Z 0 0 (some (ji r)) NC shC rfC I0 L0) (fun _ => rfl) (by decide) (Nat.le_of_ble_eq_true rfl) (fun Z hX => W_X5_letterOf hz0 t0 ht0 p0 I0 L0 hX (fun _ => rfl))
def X5_numberOf (t0 : Nat) (p0 : Int32) (I0 : jI) : Option (Int32) :=
(X6_isWithin p0 (0 : Int32) ((30 : Int32) - (1 : Int32))).bind (fun (y1 : Int32) =>
if y1 = 0 then (
some (-1 : Int32))
else (
if jin p0 30 then (
some (I0 (rfC t0 4) (p0).toNatClampNeg)) else none))
set_option maxRecDepth 20000 in
set_option maxHeartbeats 4000000 in
theorem W_X5_numberOf {Y : jY} {Z : jZ} {Qf : Int32 → State → Prop} (hz0 : Y.zf = false) (t0 : Nat) (ht0 : shC t0 = 6) (p0 : Int32) (I0 : jI) (L0 : jL) (hX : jOK Y Z RX5 cX5_numberOf 2 "numberOf" (some .int) 2 102 0 0) (hQ : ∀ r : Int32, Qf r = jQ Y Z 0 0 (some (ji r)) NC shC rfC I0 L0) : J Y Z 2 Qf (X5_numberOf t0 p0 I0) 0 [(0, jr t0), (1, ji p0)] [] 0 0 NC shC rfC I0 L0 := by
  unfold X5_numberOf
  refine J_iload_n (pc := 0) hX 1 rfl dX5_numberOf_0 ?_
  refine J_iconst (pc := 1) hX (v := (0 : Int32)) (by decide) dX5_numberOf_1 ?_
  refine J_aload_n (pc := 2) hX 0 rfl dX5_numberOf_2 ?_
  refine g_X5_18 (pc := 3) hX ht0 dX5_numberOf_3 ?_
  refine J_alen (pc := 6) hX (v := (30 : Int32)) (fs_5_4 t0 ht0) (by decide) dX5_numberOf_6 ?_
  refine J_iconst (pc := 7) hX (v := (1 : Int32)) (by decide) dX5_numberOf_7 ?_
  refine J_isub (pc := 8) hX dX5_numberOf_8 ?_
  refine J_call1 (fun y1 e2 => ?_)
  refine jrun_i (pc := 9) (jRunSN hX s_X5_28 (As := [ji p0, ji (0 : Int32), ji ((30 : Int32) - (1 : Int32))]) (rest := []) (C_X6_isWithin Y hz0 p0 (0 : Int32) ((30 : Int32) - (1 : Int32)) I0 L0 y1 e2) rfl rfl ⟨by decide, by decide⟩ ⟨Nat.le_of_ble_eq_true rfl, Nat.le_of_ble_eq_true rfl⟩ (Nat.le_of_ble_eq_true rfl) dX5_numberOf_9) ?_
  refine J_if_eq (pc := 12) hX (tgt := 24) (by decide) dX5_numberOf_12 (fun h3 => ?_) (fun h3 => ?_)
  · refine J_iconst (pc := 24) hX (v := (-1 : Int32)) (by decide) dX5_numberOf_24 ?_
    exact J_iret (pc := 25) hX (hQ _) dX5_numberOf_25
  · refine J_aload_n (pc := 15) hX 0 rfl dX5_numberOf_15 ?_
    refine g_X5_18 (pc := 16) hX ht0 dX5_numberOf_16 ?_
    refine J_iload_n (pc := 19) hX 1 rfl dX5_numberOf_19 ?_
    refine J_iald (pc := 20) hX (N := 30) (fs_5_4 t0 ht0) (by decide) dX5_numberOf_20 (fun h4 => ?_)
    refine J_goto (pc := 21) hX (tgt := 25) (by decide) dX5_numberOf_21 ?_
    exact J_iret (pc := 25) hX (hQ _) dX5_numberOf_25
theorem C_X5_numberOf (Y : jY) (hz0 : Y.zf = false) (t0 : Nat) (ht0 : shC t0 = 6) (p0 : Int32) (I0 : jI) (L0 : jL) (r : Int32) (h : X5_numberOf t0 p0 I0 = some r) : jMet Y yX5_numberOf cX5_numberOf 2 (some .int) 2 102 0 0 [jr t0, ji p0] NC shC rfC I0 L0 (some (ji r)) NC shC rfC I0 L0 :=
  jmet_of _ _ h (fun Z r => jQ Y Z 0 0 (some (ji r)) NC shC rfC I0 L0) (fun _ => rfl) (by decide) (Nat.le_of_ble_eq_true rfl) (fun Z hX => W_X5_numberOf hz0 t0 ht0 p0 I0 L0 hX (fun _ => rfl))
def X5_valueOf (t0 : Nat) (p0 : Int32) (I0 : jI) : Option (Int32) :=
(X6_isWithin p0 (0 : Int32) ((30 : Int32) - (1 : Int32))).bind (fun (y1 : Int32) =>
if y1 = 0 then (
some (-1 : Int32))
else (
if jin p0 30 then (
some (I0 (rfC t0 5) (p0).toNatClampNeg)) else none))
set_option maxRecDepth 20000 in
set_option maxHeartbeats 4000000 in
theorem W_X5_valueOf {Y : jY} {Z : jZ} {Qf : Int32 → State → Prop} (hz0 : Y.zf = false) (t0 : Nat) (ht0 : shC t0 = 6) (p0 : Int32) (I0 : jI) (L0 : jL) (hX : jOK Y Z RX5 cX5_valueOf 2 "valueOf" (some .int) 2 102 0 0) (hQ : ∀ r : Int32, Qf r = jQ Y Z 0 0 (some (ji r)) NC shC rfC I0 L0) : J Y Z 2 Qf (X5_valueOf t0 p0 I0) 0 [(0, jr t0), (1, ji p0)] [] 0 0 NC shC rfC I0 L0 := by
  unfold X5_valueOf
  refine J_iload_n (pc := 0) hX 1 rfl dX5_valueOf_0 ?_
  refine J_iconst (pc := 1) hX (v := (0 : Int32)) (by decide) dX5_valueOf_1 ?_
  refine J_aload_n (pc := 2) hX 0 rfl dX5_valueOf_2 ?_
  refine g_X5_21 (pc := 3) hX ht0 dX5_valueOf_3 ?_
  refine J_alen (pc := 6) hX (v := (30 : Int32)) (fs_5_5 t0 ht0) (by decide) dX5_valueOf_6 ?_
  refine J_iconst (pc := 7) hX (v := (1 : Int32)) (by decide) dX5_valueOf_7 ?_
  refine J_isub (pc := 8) hX dX5_valueOf_8 ?_
  refine J_call1 (fun y1 e2 => ?_)
  refine jrun_i (pc := 9) (jRunSN hX s_X5_28 (As := [ji p0, ji (0 : Int32), ji ((30 : Int32) - (1 : Int32))]) (rest := []) (C_X6_isWithin Y hz0 p0 (0 : Int32) ((30 : Int32) - (1 : Int32)) I0 L0 y1 e2) rfl rfl ⟨by decide, by decide⟩ ⟨Nat.le_of_ble_eq_true rfl, Nat.le_of_ble_eq_true rfl⟩ (Nat.le_of_ble_eq_true rfl) dX5_valueOf_9) ?_
  refine J_if_eq (pc := 12) hX (tgt := 24) (by decide) dX5_valueOf_12 (fun h3 => ?_) (fun h3 => ?_)
  · refine J_iconst (pc := 24) hX (v := (-1 : Int32)) (by decide) dX5_valueOf_24 ?_
    exact J_iret (pc := 25) hX (hQ _) dX5_valueOf_25
  · refine J_aload_n (pc := 15) hX 0 rfl dX5_valueOf_15 ?_
    refine g_X5_21 (pc := 16) hX ht0 dX5_valueOf_16 ?_
    refine J_iload_n (pc := 19) hX 1 rfl dX5_valueOf_19 ?_
    refine J_iald (pc := 20) hX (N := 30) (fs_5_5 t0 ht0) (by decide) dX5_valueOf_20 (fun h4 => ?_)
    refine J_goto (pc := 21) hX (tgt := 25) (by decide) dX5_valueOf_21 ?_
    exact J_iret (pc := 25) hX (hQ _) dX5_valueOf_25
theorem C_X5_valueOf (Y : jY) (hz0 : Y.zf = false) (t0 : Nat) (ht0 : shC t0 = 6) (p0 : Int32) (I0 : jI) (L0 : jL) (r : Int32) (h : X5_valueOf t0 p0 I0 = some r) : jMet Y yX5_valueOf cX5_valueOf 2 (some .int) 2 102 0 0 [jr t0, ji p0] NC shC rfC I0 L0 (some (ji r)) NC shC rfC I0 L0 :=
  jmet_of _ _ h (fun Z r => jQ Y Z 0 0 (some (ji r)) NC shC rfC I0 L0) (fun _ => rfl) (by decide) (Nat.le_of_ble_eq_true rfl) (fun Z hX => W_X5_valueOf hz0 t0 ht0 p0 I0 L0 hX (fun _ => rfl))
def X5_byteHere (t0 : Nat) (I0 : jI) : Option (Int32) :=
if (I0 t0 0) ≤ (I0 t0 6) then (
some (-1 : Int32))
else (
(X6_isWithin (I0 t0 6) (0 : Int32) ((250 : Int32) - (1 : Int32))).bind (fun (y2 : Int32) =>
if y2 = 0 then (
some (-1 : Int32))
else (
if jin (I0 t0 6) 250 then (
some (I0 (rfC t0 2) ((I0 t0 6)).toNatClampNeg)) else none)))
set_option maxRecDepth 20000 in
set_option maxHeartbeats 4000000 in
theorem W_X5_byteHere {Y : jY} {Z : jZ} {Qf : Int32 → State → Prop} (hz0 : Y.zf = false) (t0 : Nat) (ht0 : shC t0 = 6) (I0 : jI) (L0 : jL) (hX : jOK Y Z RX5 cX5_byteHere 1 "byteHere" (some .int) 2 102 0 0) (hQ : ∀ r : Int32, Qf r = jQ Y Z 0 0 (some (ji r)) NC shC rfC I0 L0) : J Y Z 1 Qf (X5_byteHere t0 I0) 0 [(0, jr t0)] [] 0 0 NC shC rfC I0 L0 := by
  unfold X5_byteHere
  refine J_aload_n (pc := 0) hX 0 rfl dX5_byteHere_0 ?_
  refine g_X5_32 (pc := 1) hX ht0 dX5_byteHere_1 ?_
  refine J_aload_n (pc := 4) hX 0 rfl dX5_byteHere_4 ?_
  refine g_X5_24 (pc := 5) hX ht0 dX5_byteHere_5 ?_
  refine J_icmp_ge (pc := 8) hX (tgt := 41) (by decide) dX5_byteHere_8 (fun h1 => ?_) (fun h1 => ?_)
  · refine J_iconst (pc := 41) hX (v := (-1 : Int32)) (by decide) dX5_byteHere_41 ?_
    exact J_iret (pc := 42) hX (hQ _) dX5_byteHere_42
  · refine J_aload_n (pc := 11) hX 0 rfl dX5_byteHere_11 ?_
    refine g_X5_32 (pc := 12) hX ht0 dX5_byteHere_12 ?_
    refine J_iconst (pc := 15) hX (v := (0 : Int32)) (by decide) dX5_byteHere_15 ?_
    refine J_aload_n (pc := 16) hX 0 rfl dX5_byteHere_16 ?_
    refine g_X5_11 (pc := 17) hX ht0 dX5_byteHere_17 ?_
    refine J_alen (pc := 20) hX (v := (250 : Int32)) (fs_5_2 t0 ht0) (by decide) dX5_byteHere_20 ?_
    refine J_iconst (pc := 21) hX (v := (1 : Int32)) (by decide) dX5_byteHere_21 ?_
    refine J_isub (pc := 22) hX dX5_byteHere_22 ?_
    refine J_call1 (fun y2 e3 => ?_)
    refine jrun_i (pc := 23) (jRunSN hX s_X5_28 (As := [ji (I0 t0 6), ji (0 : Int32), ji ((250 : Int32) - (1 : Int32))]) (rest := []) (C_X6_isWithin Y hz0 (I0 t0 6) (0 : Int32) ((250 : Int32) - (1 : Int32)) I0 L0 y2 e3) rfl rfl ⟨by decide, by decide⟩ ⟨Nat.le_of_ble_eq_true rfl, Nat.le_of_ble_eq_true rfl⟩ (Nat.le_of_ble_eq_true rfl) dX5_byteHere_23) ?_
    refine J_if_eq (pc := 26) hX (tgt := 41) (by decide) dX5_byteHere_26 (fun h4 => ?_) (fun h4 => ?_)
    · refine J_iconst (pc := 41) hX (v := (-1 : Int32)) (by decide) dX5_byteHere_41 ?_
      exact J_iret (pc := 42) hX (hQ _) dX5_byteHere_42
    · refine J_aload_n (pc := 29) hX 0 rfl dX5_byteHere_29 ?_
      refine g_X5_11 (pc := 30) hX ht0 dX5_byteHere_30 ?_
      refine J_aload_n (pc := 33) hX 0 rfl dX5_byteHere_33 ?_
      refine g_X5_32 (pc := 34) hX ht0 dX5_byteHere_34 ?_
      refine J_iald (pc := 37) hX (N := 250) (fs_5_2 t0 ht0) (by decide) dX5_byteHere_37 (fun h5 => ?_)
      refine J_goto (pc := 38) hX (tgt := 42) (by decide) dX5_byteHere_38 ?_
      exact J_iret (pc := 42) hX (hQ _) dX5_byteHere_42
theorem C_X5_byteHere (Y : jY) (hz0 : Y.zf = false) (t0 : Nat) (ht0 : shC t0 = 6) (I0 : jI) (L0 : jL) (r : Int32) (h : X5_byteHere t0 I0 = some r) : jMet Y yX5_byteHere cX5_byteHere 1 (some .int) 2 102 0 0 [jr t0] NC shC rfC I0 L0 (some (ji r)) NC shC rfC I0 L0 :=
  jmet_of _ _ h (fun Z r => jQ Y Z 0 0 (some (ji r)) NC shC rfC I0 L0) (fun _ => rfl) (by decide) (Nat.le_of_ble_eq_true rfl) (fun Z hX => W_X5_byteHere hz0 t0 ht0 I0 L0 hX (fun _ => rfl))
def X5_mostBehind (p0 : Int32) (p1 : Int32) : Option (Int32) :=
if p0 = (115 : Int32) then (
some p1)
else (
if p0 = (97 : Int32) then (
some (8 : Int32))
else (
some (63 : Int32)))
set_option maxRecDepth 20000 in
set_option maxHeartbeats 4000000 in
theorem W_X5_mostBehind {Y : jY} {Z : jZ} {Qf : Int32 → State → Prop} (hz0 : Y.zf = false) (p0 : Int32) (p1 : Int32) (I0 : jI) (L0 : jL) (hX : jOK Y Z RX5 cX5_mostBehind 2 "mostBehind" (some .int) 1 80 0 0) (hQ : ∀ r : Int32, Qf r = jQ Y Z 0 0 (some (ji r)) NC shC rfC I0 L0) : J Y Z 2 Qf (X5_mostBehind p0 p1) 0 [(0, ji p0), (1, ji p1)] [] 0 0 NC shC rfC I0 L0 := by
  unfold X5_mostBehind
  refine J_iload_n (pc := 0) hX 0 rfl dX5_mostBehind_0 ?_
  refine J_bipush (pc := 1) hX (v := (115 : Int32)) (by decide) dX5_mostBehind_1 ?_
  refine J_icmp_ne (pc := 3) hX (tgt := 8) (by decide) dX5_mostBehind_3 (fun h1 => ?_) (fun h1 => ?_)
  · refine J_iload_n (pc := 8) hX 0 rfl dX5_mostBehind_8 ?_
    refine J_bipush (pc := 9) hX (v := (97 : Int32)) (by decide) dX5_mostBehind_9 ?_
    refine J_icmp_ne (pc := 11) hX (tgt := 19) (by decide) dX5_mostBehind_11 (fun h2 => ?_) (fun h2 => ?_)
    · refine J_bipush (pc := 19) hX (v := (63 : Int32)) (by decide) dX5_mostBehind_19 ?_
      exact J_iret (pc := 21) hX (hQ _) dX5_mostBehind_21
    · refine J_bipush (pc := 14) hX (v := (8 : Int32)) (by decide) dX5_mostBehind_14 ?_
      refine J_goto (pc := 16) hX (tgt := 21) (by decide) dX5_mostBehind_16 ?_
      exact J_iret (pc := 21) hX (hQ _) dX5_mostBehind_21
  · refine J_iload_n (pc := 6) hX 1 rfl dX5_mostBehind_6 ?_
    exact J_iret (pc := 7) hX (hQ _) dX5_mostBehind_7
theorem C_X5_mostBehind (Y : jY) (hz0 : Y.zf = false) (p0 : Int32) (p1 : Int32) (I0 : jI) (L0 : jL) (r : Int32) (h : X5_mostBehind p0 p1 = some r) : jMet Y yX5_mostBehind cX5_mostBehind 2 (some .int) 1 80 0 0 [ji p0, ji p1] NC shC rfC I0 L0 (some (ji r)) NC shC rfC I0 L0 :=
  jmet_of _ _ h (fun Z r => jQ Y Z 0 0 (some (ji r)) NC shC rfC I0 L0) (fun _ => rfl) (by decide) (Nat.le_of_ble_eq_true rfl) (fun Z hX => W_X5_mostBehind hz0 p0 p1 I0 L0 hX (fun _ => rfl))
def X5_readNumber_F1 (t0 : Nat) (y1 : Int32) (k4 : jI → Option (Int32 × jI)) (g11 : jI → Option (Int32 × jI)) : jI → Option (Int32 × jI) := fun (I10 : jI) =>
if (3 : Int32) ≤ ((I10 t0 6) - y1) then (
k4 I10)
else (
(X5_byteHere t0 I10).bind (fun (y13 : Int32) =>
(X6_isWithin y13 (48 : Int32) (57 : Int32)).bind (fun (y15 : Int32) =>
if y15 = 0 then (
k4 I10)
else (
(X5_byteHere t0 I10).bind (fun (y18 : Int32) =>
jlet (jup I10 t0 7 ((((I10 t0 7) * (10 : Int32)) + y18) - (48 : Int32))) (fun (I20 : jI) =>
jlet (jup I20 t0 6 ((I20 t0 6) + (1 : Int32))) (fun (I21 : jI) =>
g11 I21)))))))
def X5_readNumber (t0 : Nat) (p0 : Int32) (p1 : Int32) (I0 : jI) : Option (Int32 × jI) :=
jlet ((I0 t0 6)) (fun (y1 : Int32) =>
jlet (jup I0 t0 7 (0 : Int32)) (fun (I2 : jI) =>
jlet (fun (I3 : jI) =>
if (I3 t0 6) = y1 then (
some ((0 : Int32), I3))
else (
(X6_isWithin (I3 t0 7) p0 p1).bind (fun (y6 : Int32) =>
if y6 = 0 then (
jlet (jup I3 t0 6 y1) (fun (I9 : jI) =>
some ((0 : Int32), I9)))
else (
some ((1 : Int32), I3))))) (fun (k4 : jI → Option (Int32 × jI)) =>
jfx (X5_readNumber_F1 t0 y1 k4) (fun _ => none) 1000 I2)))
set_option maxRecDepth 20000 in
set_option maxHeartbeats 4000000 in
theorem W_X5_readNumber {Y : jY} {Z : jZ} {Qf : Int32 × jI → State → Prop} (hz0 : Y.zf = false) (t0 : Nat) (ht0 : shC t0 = 6) (p0 : Int32) (p1 : Int32) (I0 : jI) (L0 : jL) (hX : jOK Y Z RX5 cX5_readNumber 4 "readNumber" (some .boolean) 3 122 0 0) (hQ : ∀ r : Int32 × jI, Qf r = jQ Y Z 0 0 (some (ji r.1)) NC shC rfC r.2 L0) : J Y Z 4 Qf (X5_readNumber t0 p0 p1 I0) 0 [(0, jr t0), (1, ji p0), (2, ji p1)] [] 0 0 NC shC rfC I0 L0 := by
  unfold X5_readNumber
  refine J_aload_n (pc := 0) hX 0 rfl dX5_readNumber_0 ?_
  refine g_X5_32 (pc := 1) hX ht0 dX5_readNumber_1 ?_
  refine J_leti (fun y1 => ?_)
  refine J_istore_n (pc := 4) hX (lo' := [(3, ji y1), (0, jr t0), (1, ji p0), (2, ji p1)]) (by decide) rfl dX5_readNumber_4 ?_
  refine J_aload_n (pc := 5) hX 1 rfl dX5_readNumber_5 ?_
  refine J_iconst (pc := 6) hX (v := (0 : Int32)) (by decide) dX5_readNumber_6 ?_
  refine p_X5_54 (pc := 7) hX ht0 dX5_readNumber_7 (fun I2 => ?_)
  refine J_join (fun (k4 : jI → Option (Int32 × jI)) => ∀ (I3 : jI), J Y Z 4 Qf (k4 I3) 66 [(0, jr t0), (1, ji p0), (2, ji p1), (3, ji y1)] [] 0 0 NC shC rfC I3 L0) ?_ (fun k4 hk4 => ?_)
  · intro I3
    try dsimp only
    refine J_aload_n (pc := 66) hX 0 rfl dX5_readNumber_66 ?_
    refine g_X5_32 (pc := 67) hX ht0 dX5_readNumber_67 ?_
    refine J_iload_n (pc := 70) hX 3 rfl dX5_readNumber_70 ?_
    refine J_icmp_ne (pc := 71) hX (tgt := 76) (by decide) dX5_readNumber_71 (fun h5 => ?_) (fun h5 => ?_)
    · refine J_aload_n (pc := 76) hX 0 rfl dX5_readNumber_76 ?_
      refine g_X5_54 (pc := 77) hX ht0 dX5_readNumber_77 ?_
      refine J_iload_n (pc := 80) hX 1 rfl dX5_readNumber_80 ?_
      refine J_iload_n (pc := 81) hX 2 rfl dX5_readNumber_81 ?_
      refine J_call1 (fun y6 e7 => ?_)
      refine jrun_i (pc := 82) (jRunSN hX s_X5_28 (As := [ji (I3 t0 7), ji p0, ji p1]) (rest := []) (C_X6_isWithin Y hz0 (I3 t0 7) p0 p1 I3 L0 y6 e7) rfl rfl ⟨by decide, by decide⟩ ⟨Nat.le_of_ble_eq_true rfl, Nat.le_of_ble_eq_true rfl⟩ (Nat.le_of_ble_eq_true rfl) dX5_readNumber_82) ?_
      refine J_if_ne (pc := 85) hX (tgt := 95) (by decide) dX5_readNumber_85 (fun h8 => ?_) (fun h8 => ?_)
      · refine J_iconst (pc := 95) hX (v := (1 : Int32)) (by decide) dX5_readNumber_95 ?_
        exact J_zret (pc := 96) hX (by decide) (hQ _) dX5_readNumber_96
      · refine J_aload_n (pc := 88) hX 0 rfl dX5_readNumber_88 ?_
        refine J_iload_n (pc := 89) hX 3 rfl dX5_readNumber_89 ?_
        refine p_X5_32 (pc := 90) hX ht0 dX5_readNumber_90 (fun I9 => ?_)
        refine J_iconst (pc := 93) hX (v := (0 : Int32)) (by decide) dX5_readNumber_93 ?_
        exact J_zret (pc := 94) hX (by decide) (hQ _) dX5_readNumber_94
    · refine J_iconst (pc := 74) hX (v := (0 : Int32)) (by decide) dX5_readNumber_74 ?_
      exact J_zret (pc := 75) hX (by decide) (hQ _) dX5_readNumber_75
  have lhg11 : ∀ mq : Nat, ∀ (I10 : jI), J Y Z 4 Qf (jfx (X5_readNumber_F1 t0 y1 k4) (fun _ => none) mq I10) 10 [(0, jr t0), (1, ji p0), (2, ji p1), (3, ji y1)] [] 0 0 NC shC rfC I10 L0 := by
    intro mq
    refine jfx_J (fun (_ : Nat) (g11 : jI → Option (Int32 × jI)) => ∀ (I10 : jI), J Y Z 4 Qf (g11 I10) 10 [(0, jr t0), (1, ji p0), (2, ji p1), (3, ji y1)] [] 0 0 NC shC rfC I10 L0) ?_ (fun _ g11 hg11 => ?_) mq
    · intro I10
      exact J_none
    intro I10
    unfold X5_readNumber_F1
    try dsimp only
    refine J_aload_n (pc := 10) hX 0 rfl dX5_readNumber_10 ?_
    refine g_X5_32 (pc := 11) hX ht0 dX5_readNumber_11 ?_
    refine J_iload_n (pc := 14) hX 3 rfl dX5_readNumber_14 ?_
    refine J_isub (pc := 15) hX dX5_readNumber_15 ?_
    refine J_iconst (pc := 16) hX (v := (3 : Int32)) (by decide) dX5_readNumber_16 ?_
    refine J_icmp_ge (pc := 17) hX (tgt := 66) (by decide) dX5_readNumber_17 (fun h12 => ?_) (fun h12 => ?_)
    · exact hk4 I10
    · refine J_aload_n (pc := 20) hX 0 rfl dX5_readNumber_20 ?_
      refine J_call1 (fun y13 e14 => ?_)
      refine jrun_i (pc := 21) (jRunV hX s_X5_42 (ci := 5) (T := TX5) (N := 8) (As := []) (rest := []) rfl (by decide) (C_X5_byteHere Y hz0 t0 ht0 I10 L0 y13 e14) ht0 rfl rfl ⟨by decide, by decide⟩ ⟨Nat.le_of_ble_eq_true rfl, Nat.le_of_ble_eq_true rfl⟩ (Nat.le_of_ble_eq_true rfl) dX5_readNumber_21) ?_
      refine J_bipush (pc := 24) hX (v := (48 : Int32)) (by decide) dX5_readNumber_24 ?_
      refine J_bipush (pc := 26) hX (v := (57 : Int32)) (by decide) dX5_readNumber_26 ?_
      refine J_call1 (fun y15 e16 => ?_)
      refine jrun_i (pc := 28) (jRunSN hX s_X5_28 (As := [ji y13, ji (48 : Int32), ji (57 : Int32)]) (rest := []) (C_X6_isWithin Y hz0 y13 (48 : Int32) (57 : Int32) I10 L0 y15 e16) rfl rfl ⟨by decide, by decide⟩ ⟨Nat.le_of_ble_eq_true rfl, Nat.le_of_ble_eq_true rfl⟩ (Nat.le_of_ble_eq_true rfl) dX5_readNumber_28) ?_
      refine J_if_eq (pc := 31) hX (tgt := 66) (by decide) dX5_readNumber_31 (fun h17 => ?_) (fun h17 => ?_)
      · exact hk4 I10
      · refine J_aload_n (pc := 34) hX 0 rfl dX5_readNumber_34 ?_
        refine J_aload_n (pc := 35) hX 0 rfl dX5_readNumber_35 ?_
        refine g_X5_54 (pc := 36) hX ht0 dX5_readNumber_36 ?_
        refine J_bipush (pc := 39) hX (v := (10 : Int32)) (by decide) dX5_readNumber_39 ?_
        refine J_imul (pc := 41) hX dX5_readNumber_41 ?_
        refine J_aload_n (pc := 42) hX 0 rfl dX5_readNumber_42 ?_
        refine J_call1 (fun y18 e19 => ?_)
        refine jrun_i (pc := 43) (jRunV hX s_X5_42 (ci := 5) (T := TX5) (N := 8) (As := []) (rest := [ji ((I10 t0 7) * (10 : Int32)), jr t0]) rfl (by decide) (C_X5_byteHere Y hz0 t0 ht0 I10 L0 y18 e19) ht0 rfl rfl ⟨by decide, by decide⟩ ⟨Nat.le_of_ble_eq_true rfl, Nat.le_of_ble_eq_true rfl⟩ (Nat.le_of_ble_eq_true rfl) dX5_readNumber_43) ?_
        refine J_iadd (pc := 46) hX dX5_readNumber_46 ?_
        refine J_bipush (pc := 47) hX (v := (48 : Int32)) (by decide) dX5_readNumber_47 ?_
        refine J_isub (pc := 49) hX dX5_readNumber_49 ?_
        refine p_X5_54 (pc := 50) hX ht0 dX5_readNumber_50 (fun I20 => ?_)
        refine J_aload_n (pc := 53) hX 0 rfl dX5_readNumber_53 ?_
        refine J_dup (pc := 54) hX rfl dX5_readNumber_54 ?_
        refine g_X5_32 (pc := 55) hX ht0 dX5_readNumber_55 ?_
        refine J_iconst (pc := 58) hX (v := (1 : Int32)) (by decide) dX5_readNumber_58 ?_
        refine J_iadd (pc := 59) hX dX5_readNumber_59 ?_
        refine p_X5_32 (pc := 60) hX ht0 dX5_readNumber_60 (fun I21 => ?_)
        refine J_goto (pc := 63) hX (tgt := 10) (by decide) dX5_readNumber_63 ?_
        exact hg11 I21
  refine J_sub [1, 2, 3, 0] rfl ?_
  exact lhg11 1000 I2
theorem C_X5_readNumber (Y : jY) (hz0 : Y.zf = false) (t0 : Nat) (ht0 : shC t0 = 6) (p0 : Int32) (p1 : Int32) (I0 : jI) (L0 : jL) (r : Int32) (I1 : jI) (h : X5_readNumber t0 p0 p1 I0 = some (r, I1)) : jMet Y yX5_readNumber cX5_readNumber 4 (some .boolean) 3 122 0 0 [jr t0, ji p0, ji p1] NC shC rfC I0 L0 (some (ji r)) NC shC rfC I1 L0 :=
  jmet_of _ _ h (fun Z r => jQ Y Z 0 0 (some (ji r.1)) NC shC rfC r.2 L0) (fun _ => rfl) (by decide) (Nat.le_of_ble_eq_true rfl) (fun Z hX => W_X5_readNumber hz0 t0 ht0 p0 p1 I0 L0 hX (fun _ => rfl))
def X5_readValue (t0 : Nat) (I0 : jI) : Option (Int32 × jI) :=
(X5_byteHere t0 I0).bind (fun (y1 : Int32) =>
if y1 = (61 : Int32) then (
jlet (jup I0 t0 6 ((I0 t0 6) + (1 : Int32))) (fun (I4 : jI) =>
jb2 (X5_readNumber t0 (0 : Int32) (999 : Int32) I4) (fun (y5 : Int32) (I6 : jI) =>
if y5 = 0 then (
some ((0 : Int32), I6))
else (
if (I6 t0 1) < (30 : Int32) then (
if jin (I6 t0 1) 30 then jlet (jup I6 (rfC t0 5) ((I6 t0 1)).toNatClampNeg (I6 t0 7)) (fun (I11 : jI) =>
some ((1 : Int32), I11)) else none)
else (
some ((0 : Int32), I6))))))
else (
some ((0 : Int32), I0)))
set_option maxRecDepth 20000 in
set_option maxHeartbeats 4000000 in
theorem W_X5_readValue {Y : jY} {Z : jZ} {Qf : Int32 × jI → State → Prop} (hz0 : Y.zf = false) (t0 : Nat) (ht0 : shC t0 = 6) (I0 : jI) (L0 : jL) (hX : jOK Y Z RX5 cX5_readValue 1 "readValue" (some .boolean) 4 145 0 0) (hQ : ∀ r : Int32 × jI, Qf r = jQ Y Z 0 0 (some (ji r.1)) NC shC rfC r.2 L0) : J Y Z 1 Qf (X5_readValue t0 I0) 0 [(0, jr t0)] [] 0 0 NC shC rfC I0 L0 := by
  unfold X5_readValue
  refine J_aload_n (pc := 0) hX 0 rfl dX5_readValue_0 ?_
  refine J_call1 (fun y1 e2 => ?_)
  refine jrun_i (pc := 1) (jRunV hX s_X5_42 (ci := 5) (T := TX5) (N := 8) (As := []) (rest := []) rfl (by decide) (C_X5_byteHere Y hz0 t0 ht0 I0 L0 y1 e2) ht0 rfl rfl ⟨by decide, by decide⟩ ⟨Nat.le_of_ble_eq_true rfl, Nat.le_of_ble_eq_true rfl⟩ (Nat.le_of_ble_eq_true rfl) dX5_readValue_1) ?_
  refine J_bipush (pc := 4) hX (v := (61 : Int32)) (by decide) dX5_readValue_4 ?_
  refine J_icmp_eq (pc := 6) hX (tgt := 11) (by decide) dX5_readValue_6 (fun h3 => ?_) (fun h3 => ?_)
  · refine J_aload_n (pc := 11) hX 0 rfl dX5_readValue_11 ?_
    refine J_dup (pc := 12) hX rfl dX5_readValue_12 ?_
    refine g_X5_32 (pc := 13) hX ht0 dX5_readValue_13 ?_
    refine J_iconst (pc := 16) hX (v := (1 : Int32)) (by decide) dX5_readValue_16 ?_
    refine J_iadd (pc := 17) hX dX5_readValue_17 ?_
    refine p_X5_32 (pc := 18) hX ht0 dX5_readValue_18 (fun I4 => ?_)
    refine J_aload_n (pc := 21) hX 0 rfl dX5_readValue_21 ?_
    refine J_iconst (pc := 22) hX (v := (0 : Int32)) (by decide) dX5_readValue_22 ?_
    refine J_sipush (pc := 23) hX (v := (999 : Int32)) (by decide) dX5_readValue_23 ?_
    refine J_call2 (fun y5 I6 e7 => ?_)
    refine jrun_i (pc := 26) (jRunV hX s_X5_50 (ci := 5) (T := TX5) (N := 8) (As := [ji (0 : Int32), ji (999 : Int32)]) (rest := []) rfl (by decide) (C_X5_readNumber Y hz0 t0 ht0 (0 : Int32) (999 : Int32) I4 L0 y5 I6 e7) ht0 rfl rfl ⟨by decide, by decide⟩ ⟨Nat.le_of_ble_eq_true rfl, Nat.le_of_ble_eq_true rfl⟩ (Nat.le_of_ble_eq_true rfl) dX5_readValue_26) ?_
    refine J_if_eq (pc := 29) hX (tgt := 44) (by decide) dX5_readValue_29 (fun h8 => ?_) (fun h8 => ?_)
    · refine J_iconst (pc := 44) hX (v := (0 : Int32)) (by decide) dX5_readValue_44 ?_
      exact J_zret (pc := 45) hX (by decide) (hQ _) dX5_readValue_45
    · refine J_aload_n (pc := 32) hX 0 rfl dX5_readValue_32 ?_
      refine g_X5_35 (pc := 33) hX ht0 dX5_readValue_33 ?_
      refine J_aload_n (pc := 36) hX 0 rfl dX5_readValue_36 ?_
      refine g_X5_21 (pc := 37) hX ht0 dX5_readValue_37 ?_
      refine J_alen (pc := 40) hX (v := (30 : Int32)) (fs_5_5 t0 ht0) (by decide) dX5_readValue_40 ?_
      refine J_icmp_lt (pc := 41) hX (tgt := 46) (by decide) dX5_readValue_41 (fun h9 => ?_) (fun h9 => ?_)
      · refine J_aload_n (pc := 46) hX 0 rfl dX5_readValue_46 ?_
        refine g_X5_21 (pc := 47) hX ht0 dX5_readValue_47 ?_
        refine J_aload_n (pc := 50) hX 0 rfl dX5_readValue_50 ?_
        refine g_X5_35 (pc := 51) hX ht0 dX5_readValue_51 ?_
        refine J_aload_n (pc := 54) hX 0 rfl dX5_readValue_54 ?_
        refine g_X5_54 (pc := 55) hX ht0 dX5_readValue_55 ?_
        refine J_iast (pc := 58) hX (N := 30) (fs_5_5 t0 ht0) (by decide) dX5_readValue_58 (fun h10 I11 => ?_)
        refine J_iconst (pc := 59) hX (v := (1 : Int32)) (by decide) dX5_readValue_59 ?_
        exact J_zret (pc := 60) hX (by decide) (hQ _) dX5_readValue_60
      · refine J_iconst (pc := 44) hX (v := (0 : Int32)) (by decide) dX5_readValue_44 ?_
        exact J_zret (pc := 45) hX (by decide) (hQ _) dX5_readValue_45
  · refine J_iconst (pc := 9) hX (v := (0 : Int32)) (by decide) dX5_readValue_9 ?_
    exact J_zret (pc := 10) hX (by decide) (hQ _) dX5_readValue_10
theorem C_X5_readValue (Y : jY) (hz0 : Y.zf = false) (t0 : Nat) (ht0 : shC t0 = 6) (I0 : jI) (L0 : jL) (r : Int32) (I1 : jI) (h : X5_readValue t0 I0 = some (r, I1)) : jMet Y yX5_readValue cX5_readValue 1 (some .boolean) 4 145 0 0 [jr t0] NC shC rfC I0 L0 (some (ji r)) NC shC rfC I1 L0 :=
  jmet_of _ _ h (fun Z r => jQ Y Z 0 0 (some (ji r.1)) NC shC rfC r.2 L0) (fun _ => rfl) (by decide) (Nat.le_of_ble_eq_true rfl) (fun Z hX => W_X5_readValue hz0 t0 ht0 I0 L0 hX (fun _ => rfl))
def X5_readPart (t0 : Nat) (p0 : Int32) (I0 : jI) : Option (Int32 × jI) :=
(X5_byteHere t0 I0).bind (fun (y1 : Int32) =>
jlet (
jlet (jup I0 t0 6 ((I0 t0 6) + (1 : Int32))) (fun (I4 : jI) =>
jlet (if y1 = (115 : Int32) then (1 : Int32) else (0 : Int32)) (fun (y6 : Int32) =>
(X5_mostBehind y1 p0).bind (fun (y7 : Int32) =>
jb2 (X5_readNumber t0 y6 y7 I4) (fun (y9 : Int32) (I10 : jI) =>
if y9 = 0 then (
some ((0 : Int32), I10))
else (
if (I10 t0 1) < (30 : Int32) then (
if jin (I10 t0 1) 30 then jlet (jup I10 (rfC t0 3) ((I10 t0 1)).toNatClampNeg y1) (fun (I15 : jI) =>
if jin (I15 t0 1) 30 then jlet (jup I15 (rfC t0 4) ((I15 t0 1)).toNatClampNeg (I15 t0 7)) (fun (I17 : jI) =>
jlet (fun (I18 : jI) =>
some ((1 : Int32), I18)) (fun (k19 : jI → Option (Int32 × jI)) =>
if y1 = (119 : Int32) then (
jb2 (X5_readValue t0 I17) (fun (y21 : Int32) (I22 : jI) =>
if y21 = 0 then (
some ((0 : Int32), I22))
else (
k19 I22)))
else (
k19 I17))) else none) else none)
else (
some ((0 : Int32), I10)))))))) (fun (k3 : Option (Int32 × jI)) =>
if y1 = (114 : Int32) then (
k3)
else (
if y1 = (119 : Int32) then (
k3)
else (
if y1 = (115 : Int32) then (
k3)
else (
if y1 = (97 : Int32) then (
k3)
else (
some ((0 : Int32), I0)))))))
set_option maxRecDepth 20000 in
set_option maxHeartbeats 4000000 in
theorem W_X5_readPart {Y : jY} {Z : jZ} {Qf : Int32 × jI → State → Prop} (hz0 : Y.zf = false) (t0 : Nat) (ht0 : shC t0 = 6) (p0 : Int32) (I0 : jI) (L0 : jL) (hX : jOK Y Z RX5 cX5_readPart 4 "readPart" (some .boolean) 5 165 0 0) (hQ : ∀ r : Int32 × jI, Qf r = jQ Y Z 0 0 (some (ji r.1)) NC shC rfC r.2 L0) : J Y Z 4 Qf (X5_readPart t0 p0 I0) 0 [(0, jr t0), (1, ji p0)] [] 0 0 NC shC rfC I0 L0 := by
  unfold X5_readPart
  refine J_aload_n (pc := 0) hX 0 rfl dX5_readPart_0 ?_
  refine J_call1 (fun y1 e2 => ?_)
  refine jrun_i (pc := 1) (jRunV hX s_X5_42 (ci := 5) (T := TX5) (N := 8) (As := []) (rest := []) rfl (by decide) (C_X5_byteHere Y hz0 t0 ht0 I0 L0 y1 e2) ht0 rfl rfl ⟨by decide, by decide⟩ ⟨Nat.le_of_ble_eq_true rfl, Nat.le_of_ble_eq_true rfl⟩ (Nat.le_of_ble_eq_true rfl) dX5_readPart_1) ?_
  refine J_istore_n (pc := 4) hX (lo' := [(2, ji y1), (0, jr t0), (1, ji p0)]) (by decide) rfl dX5_readPart_4 ?_
  refine J_iload_n (pc := 5) hX 0 rfl dX5_readPart_5 ?_
  refine J_bipush (pc := 6) hX (v := (114 : Int32)) (by decide) dX5_readPart_6 ?_
  refine J_join (fun (k3 : Option (Int32 × jI)) => J Y Z 4 Qf (k3) 31 [(0, jr t0), (1, ji p0), (2, ji y1)] [] 0 0 NC shC rfC I0 L0) ?_ (fun k3 hk3 => ?_)
  · refine J_aload_n (pc := 31) hX 0 rfl dX5_readPart_31 ?_
    refine J_dup (pc := 32) hX rfl dX5_readPart_32 ?_
    refine g_X5_32 (pc := 33) hX ht0 dX5_readPart_33 ?_
    refine J_iconst (pc := 36) hX (v := (1 : Int32)) (by decide) dX5_readPart_36 ?_
    refine J_iadd (pc := 37) hX dX5_readPart_37 ?_
    refine p_X5_32 (pc := 38) hX ht0 dX5_readPart_38 (fun I4 => ?_)
    refine J_iload_n (pc := 41) hX 2 rfl dX5_readPart_41 ?_
    refine J_bipush (pc := 42) hX (v := (115 : Int32)) (by decide) dX5_readPart_42 ?_
    refine J_vjoin (fun kq (y6 : Int32) => J Y Z 4 Qf (kq) 52 [(0, jr t0), (1, ji p0), (2, ji y1)] [ji y6] 0 0 NC shC rfC I4 L0) (fun y6 => ?_) (fun hj => ?_)
    · try dsimp only
      refine J_istore_n (pc := 52) hX (lo' := [(3, ji y6), (0, jr t0), (1, ji p0), (2, ji y1)]) (by decide) rfl dX5_readPart_52 ?_
      refine J_aload_n (pc := 53) hX 1 rfl dX5_readPart_53 ?_
      refine J_iload_n (pc := 54) hX 0 rfl dX5_readPart_54 ?_
      refine J_iload_n (pc := 55) hX 3 rfl dX5_readPart_55 ?_
      refine J_iload_n (pc := 56) hX 2 rfl dX5_readPart_56 ?_
      refine J_call1 (fun y7 e8 => ?_)
      refine jrun_i (pc := 57) (jRunS hX s_X5_46 (As := [ji y1, ji p0]) (rest := [ji y6, jr t0]) (C_X5_mostBehind Y hz0 y1 p0 I4 L0 y7 e8) rfl rfl ⟨by decide, by decide⟩ ⟨Nat.le_of_ble_eq_true rfl, Nat.le_of_ble_eq_true rfl⟩ (Nat.le_of_ble_eq_true rfl) dX5_readPart_57) ?_
      refine J_call2 (fun y9 I10 e11 => ?_)
      refine jrun_i (pc := 60) (jRunV hX s_X5_50 (ci := 5) (T := TX5) (N := 8) (As := [ji y6, ji y7]) (rest := []) rfl (by decide) (C_X5_readNumber Y hz0 t0 ht0 y6 y7 I4 L0 y9 I10 e11) ht0 rfl rfl ⟨by decide, by decide⟩ ⟨Nat.le_of_ble_eq_true rfl, Nat.le_of_ble_eq_true rfl⟩ (Nat.le_of_ble_eq_true rfl) dX5_readPart_60) ?_
      refine J_if_eq (pc := 63) hX (tgt := 78) (by decide) dX5_readPart_63 (fun h12 => ?_) (fun h12 => ?_)
      · refine J_iconst (pc := 78) hX (v := (0 : Int32)) (by decide) dX5_readPart_78 ?_
        exact J_zret (pc := 79) hX (by decide) (hQ _) dX5_readPart_79
      · refine J_aload_n (pc := 66) hX 1 rfl dX5_readPart_66 ?_
        refine g_X5_35 (pc := 67) hX ht0 dX5_readPart_67 ?_
        refine J_aload_n (pc := 70) hX 1 rfl dX5_readPart_70 ?_
        refine g_X5_15 (pc := 71) hX ht0 dX5_readPart_71 ?_
        refine J_alen (pc := 74) hX (v := (30 : Int32)) (fs_5_3 t0 ht0) (by decide) dX5_readPart_74 ?_
        refine J_icmp_lt (pc := 75) hX (tgt := 80) (by decide) dX5_readPart_75 (fun h13 => ?_) (fun h13 => ?_)
        · refine J_aload_n (pc := 80) hX 1 rfl dX5_readPart_80 ?_
          refine g_X5_15 (pc := 81) hX ht0 dX5_readPart_81 ?_
          refine J_aload_n (pc := 84) hX 1 rfl dX5_readPart_84 ?_
          refine g_X5_35 (pc := 85) hX ht0 dX5_readPart_85 ?_
          refine J_iload_n (pc := 88) hX 3 rfl dX5_readPart_88 ?_
          refine J_iast (pc := 89) hX (N := 30) (fs_5_3 t0 ht0) (by decide) dX5_readPart_89 (fun h14 I15 => ?_)
          refine J_aload_n (pc := 90) hX 1 rfl dX5_readPart_90 ?_
          refine g_X5_18 (pc := 91) hX ht0 dX5_readPart_91 ?_
          refine J_aload_n (pc := 94) hX 1 rfl dX5_readPart_94 ?_
          refine g_X5_35 (pc := 95) hX ht0 dX5_readPart_95 ?_
          refine J_aload_n (pc := 98) hX 1 rfl dX5_readPart_98 ?_
          refine g_X5_54 (pc := 99) hX ht0 dX5_readPart_99 ?_
          refine J_iast (pc := 102) hX (N := 30) (fs_5_4 t0 ht0) (by decide) dX5_readPart_102 (fun h16 I17 => ?_)
          refine J_iload_n (pc := 103) hX 3 rfl dX5_readPart_103 ?_
          refine J_bipush (pc := 104) hX (v := (119 : Int32)) (by decide) dX5_readPart_104 ?_
          refine J_join (fun (k19 : jI → Option (Int32 × jI)) => ∀ (I18 : jI), J Y Z 4 Qf (k19 I18) 116 [] [] 0 0 NC shC rfC I18 L0) ?_ (fun k19 hk19 => ?_)
          · intro I18
            try dsimp only
            refine J_iconst (pc := 116) hX (v := (1 : Int32)) (by decide) dX5_readPart_116 ?_
            refine J_goto (pc := 117) hX (tgt := 121) (by decide) dX5_readPart_117 ?_
            exact J_zret (pc := 121) hX (by decide) (hQ _) dX5_readPart_121
          refine J_icmp_ne (pc := 106) hX (tgt := 116) (by decide) dX5_readPart_106 (fun h20 => ?_) (fun h20 => ?_)
          · refine J_sub [] rfl ?_
            exact hk19 I17
          · refine J_aload_n (pc := 109) hX 1 rfl dX5_readPart_109 ?_
            refine J_call2 (fun y21 I22 e23 => ?_)
            refine jrun_i (pc := 110) (jRunV hX s_X5_57 (ci := 5) (T := TX5) (N := 8) (As := []) (rest := []) rfl (by decide) (C_X5_readValue Y hz0 t0 ht0 I17 L0 y21 I22 e23) ht0 rfl rfl ⟨by decide, by decide⟩ ⟨Nat.le_of_ble_eq_true rfl, Nat.le_of_ble_eq_true rfl⟩ (Nat.le_of_ble_eq_true rfl) dX5_readPart_110) ?_
            refine J_if_eq (pc := 113) hX (tgt := 120) (by decide) dX5_readPart_113 (fun h24 => ?_) (fun h24 => ?_)
            · refine J_iconst (pc := 120) hX (v := (0 : Int32)) (by decide) dX5_readPart_120 ?_
              exact J_zret (pc := 121) hX (by decide) (hQ _) dX5_readPart_121
            · refine J_sub [] rfl ?_
              exact hk19 I22
        · refine J_iconst (pc := 78) hX (v := (0 : Int32)) (by decide) dX5_readPart_78 ?_
          exact J_zret (pc := 79) hX (by decide) (hQ _) dX5_readPart_79
    try dsimp only at hj
    refine J_icmp_neV (pc := 44) hX (tgt := 51) (by decide) dX5_readPart_44 (fun h5 => ?_) (fun h5 => ?_)
    · refine J_iconst (pc := 51) hX (v := (0 : Int32)) (by decide) dX5_readPart_51 ?_
      exact hj _
    · refine J_iconst (pc := 47) hX (v := (1 : Int32)) (by decide) dX5_readPart_47 ?_
      refine J_goto (pc := 48) hX (tgt := 52) (by decide) dX5_readPart_48 ?_
      exact hj _
  refine J_icmp_eq (pc := 8) hX (tgt := 31) (by decide) dX5_readPart_8 (fun h25 => ?_) (fun h25 => ?_)
  · refine J_sub [1, 2, 0] rfl ?_
    exact hk3
  · refine J_iload_n (pc := 11) hX 0 rfl dX5_readPart_11 ?_
    refine J_bipush (pc := 12) hX (v := (119 : Int32)) (by decide) dX5_readPart_12 ?_
    refine J_icmp_eq (pc := 14) hX (tgt := 31) (by decide) dX5_readPart_14 (fun h26 => ?_) (fun h26 => ?_)
    · refine J_sub [1, 2, 0] rfl ?_
      exact hk3
    · refine J_iload_n (pc := 17) hX 0 rfl dX5_readPart_17 ?_
      refine J_bipush (pc := 18) hX (v := (115 : Int32)) (by decide) dX5_readPart_18 ?_
      refine J_icmp_eq (pc := 20) hX (tgt := 31) (by decide) dX5_readPart_20 (fun h27 => ?_) (fun h27 => ?_)
      · refine J_sub [1, 2, 0] rfl ?_
        exact hk3
      · refine J_iload_n (pc := 23) hX 0 rfl dX5_readPart_23 ?_
        refine J_bipush (pc := 24) hX (v := (97 : Int32)) (by decide) dX5_readPart_24 ?_
        refine J_icmp_eq (pc := 26) hX (tgt := 31) (by decide) dX5_readPart_26 (fun h28 => ?_) (fun h28 => ?_)
        · refine J_sub [1, 2, 0] rfl ?_
          exact hk3
        · refine J_iconst (pc := 29) hX (v := (0 : Int32)) (by decide) dX5_readPart_29 ?_
          exact J_zret (pc := 30) hX (by decide) (hQ _) dX5_readPart_30
theorem C_X5_readPart (Y : jY) (hz0 : Y.zf = false) (t0 : Nat) (ht0 : shC t0 = 6) (p0 : Int32) (I0 : jI) (L0 : jL) (r : Int32) (I1 : jI) (h : X5_readPart t0 p0 I0 = some (r, I1)) : jMet Y yX5_readPart cX5_readPart 4 (some .boolean) 5 165 0 0 [jr t0, ji p0] NC shC rfC I0 L0 (some (ji r)) NC shC rfC I1 L0 :=
  jmet_of _ _ h (fun Z r => jQ Y Z 0 0 (some (ji r.1)) NC shC rfC r.2 L0) (fun _ => rfl) (by decide) (Nat.le_of_ble_eq_true rfl) (fun Z hX => W_X5_readPart hz0 t0 ht0 p0 I0 L0 hX (fun _ => rfl))
def X5_findFault_F1 (t0 : Nat) (p0 : Int32) (g5 : Int32 → jI → Option (Int32 × jI)) : Int32 → jI → Option (Int32 × jI) := fun (v3 : Int32) (I4 : jI) =>
if (30 : Int32) < v3 then (
some ((I4 t0 6), I4))
else (
jb2 (X5_readPart t0 p0 I4) (fun (y7 : Int32) (I8 : jI) =>
if y7 = 0 then (
some ((I8 t0 6), I8))
else (
jlet (jup I8 t0 1 v3) (fun (I11 : jI) =>
if (I11 t0 6) < (I11 t0 0) then (
(X5_byteHere t0 I11).bind (fun (y13 : Int32) =>
if y13 = (32 : Int32) then (
if v3 = (30 : Int32) then (
some ((I11 t0 6), I11))
else (
jlet (jup I11 t0 6 ((I11 t0 6) + (1 : Int32))) (fun (I17 : jI) =>
g5 (v3 + (1 : Int32)) I17)))
else (
some ((I11 t0 6), I11))))
else (
some ((-1 : Int32), I11))))))
def X5_findFault (t0 : Nat) (p0 : Int32) (I0 : jI) : Option (Int32 × jI) :=
jlet (jup I0 t0 6 (0 : Int32)) (fun (I1 : jI) =>
jlet (jup I1 t0 1 (0 : Int32)) (fun (I2 : jI) =>
jfx (X5_findFault_F1 t0 p0) (fun _ _ => none) 1000 (1 : Int32) I2))
set_option maxRecDepth 20000 in
set_option maxHeartbeats 4000000 in
theorem W_X5_findFault {Y : jY} {Z : jZ} {Qf : Int32 × jI → State → Prop} (hz0 : Y.zf = false) (t0 : Nat) (ht0 : shC t0 = 6) (p0 : Int32) (I0 : jI) (L0 : jL) (hX : jOK Y Z RX5 cX5_findFault 3 "findFault" (some .int) 6 188 0 0) (hQ : ∀ r : Int32 × jI, Qf r = jQ Y Z 0 0 (some (ji r.1)) NC shC rfC r.2 L0) : J Y Z 3 Qf (X5_findFault t0 p0 I0) 0 [(0, jr t0), (1, ji p0)] [] 0 0 NC shC rfC I0 L0 := by
  unfold X5_findFault
  refine J_aload_n (pc := 0) hX 0 rfl dX5_findFault_0 ?_
  refine J_iconst (pc := 1) hX (v := (0 : Int32)) (by decide) dX5_findFault_1 ?_
  refine p_X5_32 (pc := 2) hX ht0 dX5_findFault_2 (fun I1 => ?_)
  refine J_aload_n (pc := 5) hX 0 rfl dX5_findFault_5 ?_
  refine J_iconst (pc := 6) hX (v := (0 : Int32)) (by decide) dX5_findFault_6 ?_
  refine p_X5_35 (pc := 7) hX ht0 dX5_findFault_7 (fun I2 => ?_)
  refine J_iconst (pc := 10) hX (v := (1 : Int32)) (by decide) dX5_findFault_10 ?_
  refine J_istore_n (pc := 11) hX (lo' := [(2, ji (1 : Int32)), (0, jr t0), (1, ji p0)]) (by decide) rfl dX5_findFault_11 ?_
  have lhg5 : ∀ mq : Nat, ∀ (v3 : Int32) (I4 : jI), J Y Z 3 Qf (jfx (X5_findFault_F1 t0 p0) (fun _ _ => none) mq v3 I4) 12 [(0, jr t0), (1, ji p0), (2, ji v3)] [] 0 0 NC shC rfC I4 L0 := by
    intro mq
    refine jfx_J (fun (_ : Nat) (g5 : Int32 → jI → Option (Int32 × jI)) => ∀ (v3 : Int32) (I4 : jI), J Y Z 3 Qf (g5 v3 I4) 12 [(0, jr t0), (1, ji p0), (2, ji v3)] [] 0 0 NC shC rfC I4 L0) ?_ (fun _ g5 hg5 => ?_) mq
    · intro v3 I4
      exact J_none
    intro v3 I4
    unfold X5_findFault_F1
    try dsimp only
    refine J_iload_n (pc := 12) hX 2 rfl dX5_findFault_12 ?_
    refine J_bipush (pc := 13) hX (v := (30 : Int32)) (by decide) dX5_findFault_13 ?_
    refine J_icmp_gt (pc := 15) hX (tgt := 85) (by decide) dX5_findFault_15 (fun h6 => ?_) (fun h6 => ?_)
    · refine J_aload_n (pc := 85) hX 0 rfl dX5_findFault_85 ?_
      refine g_X5_32 (pc := 86) hX ht0 dX5_findFault_86 ?_
      exact J_iret (pc := 89) hX (hQ _) dX5_findFault_89
    · refine J_aload_n (pc := 18) hX 0 rfl dX5_findFault_18 ?_
      refine J_iload_n (pc := 19) hX 1 rfl dX5_findFault_19 ?_
      refine J_call2 (fun y7 I8 e9 => ?_)
      refine jrun_i (pc := 20) (jRunV hX s_X5_38 (ci := 5) (T := TX5) (N := 8) (As := [ji p0]) (rest := []) rfl (by decide) (C_X5_readPart Y hz0 t0 ht0 p0 I4 L0 y7 I8 e9) ht0 rfl rfl ⟨by decide, by decide⟩ ⟨Nat.le_of_ble_eq_true rfl, Nat.le_of_ble_eq_true rfl⟩ (Nat.le_of_ble_eq_true rfl) dX5_findFault_20) ?_
      refine J_if_ne (pc := 23) hX (tgt := 31) (by decide) dX5_findFault_23 (fun h10 => ?_) (fun h10 => ?_)
      · refine J_aload_n (pc := 31) hX 0 rfl dX5_findFault_31 ?_
        refine J_iload_n (pc := 32) hX 2 rfl dX5_findFault_32 ?_
        refine p_X5_35 (pc := 33) hX ht0 dX5_findFault_33 (fun I11 => ?_)
        refine J_aload_n (pc := 36) hX 0 rfl dX5_findFault_36 ?_
        refine g_X5_32 (pc := 37) hX ht0 dX5_findFault_37 ?_
        refine J_aload_n (pc := 40) hX 0 rfl dX5_findFault_40 ?_
        refine g_X5_24 (pc := 41) hX ht0 dX5_findFault_41 ?_
        refine J_icmp_lt (pc := 44) hX (tgt := 49) (by decide) dX5_findFault_44 (fun h12 => ?_) (fun h12 => ?_)
        · refine J_aload_n (pc := 49) hX 0 rfl dX5_findFault_49 ?_
          refine J_call1 (fun y13 e14 => ?_)
          refine jrun_i (pc := 50) (jRunV hX s_X5_42 (ci := 5) (T := TX5) (N := 8) (As := []) (rest := []) rfl (by decide) (C_X5_byteHere Y hz0 t0 ht0 I11 L0 y13 e14) ht0 rfl rfl ⟨by decide, by decide⟩ ⟨Nat.le_of_ble_eq_true rfl, Nat.le_of_ble_eq_true rfl⟩ (Nat.le_of_ble_eq_true rfl) dX5_findFault_50) ?_
          refine J_bipush (pc := 53) hX (v := (32 : Int32)) (by decide) dX5_findFault_53 ?_
          refine J_icmp_ne (pc := 55) hX (tgt := 64) (by decide) dX5_findFault_55 (fun h15 => ?_) (fun h15 => ?_)
          · refine J_aload_n (pc := 64) hX 0 rfl dX5_findFault_64 ?_
            refine g_X5_32 (pc := 65) hX ht0 dX5_findFault_65 ?_
            exact J_iret (pc := 68) hX (hQ _) dX5_findFault_68
          · refine J_iload_n (pc := 58) hX 2 rfl dX5_findFault_58 ?_
            refine J_bipush (pc := 59) hX (v := (30 : Int32)) (by decide) dX5_findFault_59 ?_
            refine J_icmp_ne (pc := 61) hX (tgt := 69) (by decide) dX5_findFault_61 (fun h16 => ?_) (fun h16 => ?_)
            · refine J_aload_n (pc := 69) hX 0 rfl dX5_findFault_69 ?_
              refine J_dup (pc := 70) hX rfl dX5_findFault_70 ?_
              refine g_X5_32 (pc := 71) hX ht0 dX5_findFault_71 ?_
              refine J_iconst (pc := 74) hX (v := (1 : Int32)) (by decide) dX5_findFault_74 ?_
              refine J_iadd (pc := 75) hX dX5_findFault_75 ?_
              refine p_X5_32 (pc := 76) hX ht0 dX5_findFault_76 (fun I17 => ?_)
              refine J_iinc (pc := 79) hX (v := (v3 + (1 : Int32))) (lo' := [(2, ji (v3 + (1 : Int32))), (0, jr t0), (1, ji p0)]) 2 rfl (by rfl) (by decide) rfl dX5_findFault_79 ?_
              refine J_goto (pc := 82) hX (tgt := 12) (by decide) dX5_findFault_82 ?_
              refine J_sub [1, 2, 0] rfl ?_
              exact hg5 (v3 + (1 : Int32)) I17
            · refine J_aload_n (pc := 64) hX 0 rfl dX5_findFault_64 ?_
              refine g_X5_32 (pc := 65) hX ht0 dX5_findFault_65 ?_
              exact J_iret (pc := 68) hX (hQ _) dX5_findFault_68
        · refine J_iconst (pc := 47) hX (v := (-1 : Int32)) (by decide) dX5_findFault_47 ?_
          exact J_iret (pc := 48) hX (hQ _) dX5_findFault_48
      · refine J_aload_n (pc := 26) hX 0 rfl dX5_findFault_26 ?_
        refine g_X5_32 (pc := 27) hX ht0 dX5_findFault_27 ?_
        exact J_iret (pc := 30) hX (hQ _) dX5_findFault_30
  refine J_sub [1, 2, 0] rfl ?_
  exact lhg5 1000 (1 : Int32) I2
theorem C_X5_findFault (Y : jY) (hz0 : Y.zf = false) (t0 : Nat) (ht0 : shC t0 = 6) (p0 : Int32) (I0 : jI) (L0 : jL) (r : Int32) (I1 : jI) (h : X5_findFault t0 p0 I0 = some (r, I1)) : jMet Y yX5_findFault cX5_findFault 3 (some .int) 6 188 0 0 [jr t0, ji p0] NC shC rfC I0 L0 (some (ji r)) NC shC rfC I1 L0 :=
  jmet_of _ _ h (fun Z r => jQ Y Z 0 0 (some (ji r.1)) NC shC rfC r.2 L0) (fun _ => rfl) (by decide) (Nat.le_of_ble_eq_true rfl) (fun Z hX => W_X5_findFault hz0 t0 ht0 p0 I0 L0 hX (fun _ => rfl))
def X6_shelfAt (t0 : Nat) (p0 : Int32) : Option (Nat) :=
(X6_isWithin p0 (0 : Int32) ((8 : Int32) - (1 : Int32))).bind (fun (y1 : Int32) =>
if y1 = 0 then (
some 0)
else (
if jin p0 8 then (
some (rfC (rfC t0 5) (p0).toNatClampNeg)) else none))
set_option maxRecDepth 20000 in
set_option maxHeartbeats 4000000 in
theorem W_X6_shelfAt {Y : jY} {Z : jZ} {Qf : Nat → State → Prop} (hz0 : Y.zf = false) (t0 : Nat) (ht0 : shC t0 = 7) (p0 : Int32) (I0 : jI) (L0 : jL) (hX : jOK Y Z RX6 cX6_shelfAt 2 "shelfAt" (some (.object "PageLevels$Shelf")) 2 102 0 0) (hQ : ∀ r : Nat, Qf r = jQ Y Z 0 0 (some (jr r)) NC shC rfC I0 L0) : J Y Z 2 Qf (X6_shelfAt t0 p0) 0 [(0, jr t0), (1, ji p0)] [] 0 0 NC shC rfC I0 L0 := by
  unfold X6_shelfAt
  refine J_iload_n (pc := 0) hX 1 rfl dX6_shelfAt_0 ?_
  refine J_iconst (pc := 1) hX (v := (0 : Int32)) (by decide) dX6_shelfAt_1 ?_
  refine J_aload_n (pc := 2) hX 0 rfl dX6_shelfAt_2 ?_
  refine g_X6_31 (pc := 3) hX ht0 dX6_shelfAt_3 ?_
  refine J_alen (pc := 6) hX (v := (8 : Int32)) (fs_6_5 t0 ht0) (by decide) dX6_shelfAt_6 ?_
  refine J_iconst (pc := 7) hX (v := (1 : Int32)) (by decide) dX6_shelfAt_7 ?_
  refine J_isub (pc := 8) hX dX6_shelfAt_8 ?_
  refine J_call1 (fun y1 e2 => ?_)
  refine jrun_i (pc := 9) (jRunS hX s_X6_47 (As := [ji p0, ji (0 : Int32), ji ((8 : Int32) - (1 : Int32))]) (rest := []) (C_X6_isWithin Y hz0 p0 (0 : Int32) ((8 : Int32) - (1 : Int32)) I0 L0 y1 e2) rfl rfl ⟨by decide, by decide⟩ ⟨Nat.le_of_ble_eq_true rfl, Nat.le_of_ble_eq_true rfl⟩ (Nat.le_of_ble_eq_true rfl) dX6_shelfAt_9) ?_
  refine J_if_eq (pc := 12) hX (tgt := 24) (by decide) dX6_shelfAt_12 (fun h3 => ?_) (fun h3 => ?_)
  · refine J_null (pc := 24) hX dX6_shelfAt_24 ?_
    exact J_aret (pc := 25) hX (hQ _) dX6_shelfAt_25
  · refine J_aload_n (pc := 15) hX 0 rfl dX6_shelfAt_15 ?_
    refine g_X6_31 (pc := 16) hX ht0 dX6_shelfAt_16 ?_
    refine J_iload_n (pc := 19) hX 1 rfl dX6_shelfAt_19 ?_
    refine J_aald (pc := 20) hX (N := 8) (t := 1) (fs_6_5 t0 ht0) (by decide) rfl dX6_shelfAt_20 (fun h4 => ?_)
    refine J_goto (pc := 21) hX (tgt := 25) (by decide) dX6_shelfAt_21 ?_
    exact J_aret (pc := 25) hX (hQ _) dX6_shelfAt_25
theorem C_X6_shelfAt (Y : jY) (hz0 : Y.zf = false) (t0 : Nat) (ht0 : shC t0 = 7) (p0 : Int32) (I0 : jI) (L0 : jL) (r : Nat) (h : X6_shelfAt t0 p0 = some r) : jMet Y yX6_shelfAt cX6_shelfAt 2 (some (.object "PageLevels$Shelf")) 2 102 0 0 [jr t0, ji p0] NC shC rfC I0 L0 (some (jr r)) NC shC rfC I0 L0 :=
  jmet_of _ _ h (fun Z r => jQ Y Z 0 0 (some (jr r)) NC shC rfC I0 L0) (fun _ => rfl) (by decide) (Nat.le_of_ble_eq_true rfl) (fun Z hX => W_X6_shelfAt hz0 t0 ht0 p0 I0 L0 hX (fun _ => rfl))
theorem T_X6_shelfAt (t0 : Nat) (ht0 : shC t0 = 7) (p0 : Int32) {r : Nat} (e : X6_shelfAt t0 p0 = some r) : r = 0 ∨ shC r = 4 := by
  unfold X6_shelfAt at e
  rw [Option.bind_eq_some_iff] at e
  obtain ⟨y, -, e⟩ := e
  split at e
  · cases e; exact Or.inl rfl
  · split at e
    · next h => cases e; exact Or.inr (es_5008 _ (fs_6_5 t0 ht0) _ (jin_lt h))
    · cases e
