def X7_writes_F1 (t0 : Nat) (p0 : Int32) (p1 : Int32) (y6 : Int32) (k8 : jI → Option (Int32 × jI)) (g24 : Int32 → jI → Option (Int32 × jI)) : Int32 → jI → Option (Int32 × jI) := fun (v22 : Int32) (I23 : jI) =>
if jin (688 : Int32) 784 then (
if (I23 (rfC t0 0) ((688 : Int32)).toNatClampNeg) ≤ v22 then (
k8 I23)
else (
(X7_found t0 v22 p0 I23).bind (fun (y27 : Int32) =>
jlet (fun (I29 : jI) =>
g24 (v22 + (1 : Int32)) I29) (fun (k30 : jI → Option (Int32 × jI)) =>
if y27 < 0 then (
k30 I23)
else (
jlet (
(X7_slotAt v22 y27 (1 : Int32)).bind (fun (y33 : Int32) =>
if jin y33 784 then jlet (jup I23 (rfC t0 0) (y33).toNatClampNeg p1) (fun (I36 : jI) =>
(X7_slotAt v22 y27 (2 : Int32)).bind (fun (y37 : Int32) =>
jlet (if y6 = 0 then (1 : Int32) else (0 : Int32)) (fun (y40 : Int32) =>
if jin y37 784 then jlet (jup I36 (rfC t0 0) (y37).toNatClampNeg y40) (fun (I42 : jI) =>
k30 I42) else none))) else none)) (fun (k32 : Option (Int32 × jI)) =>
if v22 = 0 then (
k32)
else (
if y6 = 0 then (
k30 I23)
else (
k32)))))))) else none
def X7_writes (t0 : Nat) (p0 : Int32) (p1 : Int32) (I0 : jI) : Option (Int32 × jI) :=
jb2 (X7_looks t0 p0 I0) (fun (y1 : Int32) (I2 : jI) =>
if jin (690 : Int32) 784 then (
jlet (if (I2 (rfC t0 0) ((690 : Int32)).toNatClampNeg) = (1 : Int32) then (1 : Int32) else (0 : Int32)) (fun (y6 : Int32) =>
jlet (fun (I7 : jI) =>
jlet (fun (I9 : jI) =>
(X7_follows t0 p0 (1 : Int32) I9).bind (fun (I11 : jI) =>
some ((I11 t0 5), I11))) (fun (k10 : jI → Option (Int32 × jI)) =>
jlet (
if jin p0 784 then jlet (jup I7 (rfC t0 0) (p0).toNatClampNeg p1) (fun (I15 : jI) =>
if jin (697 : Int32) 784 then (
if jin (697 : Int32) 784 then jlet (jup I15 (rfC t0 0) ((697 : Int32)).toNatClampNeg ((I15 (rfC t0 0) ((697 : Int32)).toNatClampNeg) + (1 : Int32))) (fun (I18 : jI) =>
k10 I18) else none) else none) else none) (fun (k13 : Option (Int32 × jI)) =>
if y6 = 0 then (
if jin (688 : Int32) 784 then (
if (I7 (rfC t0 0) ((688 : Int32)).toNatClampNeg) = 0 then (
k13)
else (
k10 I7)) else none)
else (
k13)))) (fun (k8 : jI → Option (Int32 × jI)) =>
jfx (X7_writes_F1 t0 p0 p1 y6 k8) (fun _ _ => none) 1000 (0 : Int32) I2))) else none)
set_option maxRecDepth 20000 in
set_option maxHeartbeats 4000000 in
theorem W_X7_writes {Y : jY} {Z : jZ} {Qf : Int32 × jI → State → Prop} (hz0 : Y.zf = false) (t0 : Nat) (ht0 : shC t0 = 8) (p0 : Int32) (p1 : Int32) (I0 : jI) (L0 : jL) (hX : jOK Y Z RX7 cX7_writes 6 "writes" (some .int) 47 2225 0 0) (hQ : ∀ r : Int32 × jI, Qf r = jQ Y Z 0 0 (some (ji r.1)) NC shC rfC r.2 L0) : J Y Z 6 Qf (X7_writes t0 p0 p1 I0) 0 [(0, jr t0), (1, ji p0), (2, ji p1)] [] 0 0 NC shC rfC I0 L0 := by
  unfold X7_writes
  refine J_aload_n (pc := 0) hX 0 rfl dX7_writes_0 ?_
  refine J_iload_n (pc := 1) hX 1 rfl dX7_writes_1 ?_
  refine J_call2 (fun y1 I2 e3 => ?_)
  refine jrun_i (pc := 2) (jRunV hX s_X7_110 (ci := 7) (T := TX7) (N := 20) (As := [ji p0]) (rest := []) rfl (by decide) (C_X7_looks Y hz0 t0 ht0 p0 I0 L0 y1 I2 e3) ht0 rfl rfl ⟨by decide, by decide⟩ ⟨Nat.le_of_ble_eq_true rfl, Nat.le_of_ble_eq_true rfl⟩ (Nat.le_of_ble_eq_true rfl) dX7_writes_2) ?_
  refine J_pop (pc := 5) hX rfl dX7_writes_5 ?_
  refine J_aload_n (pc := 6) hX 0 rfl dX7_writes_6 ?_
  refine g_X7_7 (pc := 7) hX ht0 dX7_writes_7 ?_
  refine J_sipush (pc := 10) hX (v := (690 : Int32)) (by decide) dX7_writes_10 ?_
  refine J_iald (pc := 13) hX (N := 784) (fs_7_0 t0 ht0) (by decide) dX7_writes_13 (fun h4 => ?_)
  refine J_iconst (pc := 14) hX (v := (1 : Int32)) (by decide) dX7_writes_14 ?_
  refine J_vjoin (fun kq (y6 : Int32) => J Y Z 6 Qf (kq) 23 [(0, jr t0), (1, ji p0), (2, ji p1)] [ji y6] 0 0 NC shC rfC I2 L0) (fun y6 => ?_) (fun hj => ?_)
  · try dsimp only
    refine J_istore_n (pc := 23) hX (lo' := [(3, ji y6), (0, jr t0), (1, ji p0), (2, ji p1)]) (by decide) rfl dX7_writes_23 ?_
    refine J_iconst (pc := 24) hX (v := (0 : Int32)) (by decide) dX7_writes_24 ?_
    refine J_istore (pc := 25) hX (lo' := [(4, ji (0 : Int32)), (3, ji y6), (0, jr t0), (1, ji p0), (2, ji p1)]) (by decide) rfl dX7_writes_25 ?_
    refine J_join (fun (k8 : jI → Option (Int32 × jI)) => ∀ (I7 : jI), J Y Z 6 Qf (k8 I7) 105 [(0, jr t0), (1, ji p0), (2, ji p1), (3, ji y6)] [] 0 0 NC shC rfC I7 L0) ?_ (fun k8 hk8 => ?_)
    · intro I7
      try dsimp only
      refine J_iload_n (pc := 105) hX 3 rfl dX7_writes_105 ?_
      refine J_join (fun (k10 : jI → Option (Int32 × jI)) => ∀ (I9 : jI), J Y Z 6 Qf (k10 I9) 139 [(0, jr t0), (1, ji p0)] [] 0 0 NC shC rfC I9 L0) ?_ (fun k10 hk10 => ?_)
      · intro I9
        try dsimp only
        refine J_aload_n (pc := 139) hX 0 rfl dX7_writes_139 ?_
        refine J_iload_n (pc := 140) hX 1 rfl dX7_writes_140 ?_
        refine J_iconst (pc := 141) hX (v := (1 : Int32)) (by decide) dX7_writes_141 ?_
        refine J_call1 (fun I11 e12 => ?_)
        refine jrun_v (pc := 142) (jRunV hX s_X7_113 (ci := 7) (T := TX7) (N := 20) (As := [ji p0, ji (1 : Int32)]) (rest := []) rfl (by decide) (C_X7_follows Y hz0 t0 ht0 p0 (1 : Int32) I9 L0 I11 e12) ht0 rfl rfl ⟨by decide, by decide⟩ ⟨Nat.le_of_ble_eq_true rfl, Nat.le_of_ble_eq_true rfl⟩ (Nat.le_of_ble_eq_true rfl) dX7_writes_142) ?_
        refine J_aload_n (pc := 145) hX 0 rfl dX7_writes_145 ?_
        refine g_X7_94 (pc := 146) hX ht0 dX7_writes_146 ?_
        exact J_iret (pc := 149) hX (hQ _) dX7_writes_149
      refine J_join (fun (k13 : Option (Int32 × jI)) => J Y Z 6 Qf (k13) 120 [(0, jr t0), (1, ji p0), (2, ji p1)] [] 0 0 NC shC rfC I7 L0) ?_ (fun k13 hk13 => ?_)
      · refine J_aload_n (pc := 120) hX 0 rfl dX7_writes_120 ?_
        refine g_X7_7 (pc := 121) hX ht0 dX7_writes_121 ?_
        refine J_iload_n (pc := 124) hX 1 rfl dX7_writes_124 ?_
        refine J_iload_n (pc := 125) hX 2 rfl dX7_writes_125 ?_
        refine J_iast (pc := 126) hX (N := 784) (fs_7_0 t0 ht0) (by decide) dX7_writes_126 (fun h14 I15 => ?_)
        refine J_aload_n (pc := 127) hX 0 rfl dX7_writes_127 ?_
        refine g_X7_7 (pc := 128) hX ht0 dX7_writes_128 ?_
        refine J_sipush (pc := 131) hX (v := (697 : Int32)) (by decide) dX7_writes_131 ?_
        refine J_dup2 (pc := 134) hX rfl rfl dX7_writes_134 ?_
        refine J_iald (pc := 135) hX (N := 784) (fs_7_0 t0 ht0) (by decide) dX7_writes_135 (fun h16 => ?_)
        refine J_iconst (pc := 136) hX (v := (1 : Int32)) (by decide) dX7_writes_136 ?_
        refine J_iadd (pc := 137) hX dX7_writes_137 ?_
        refine J_iast (pc := 138) hX (N := 784) (fs_7_0 t0 ht0) (by decide) dX7_writes_138 (fun h17 I18 => ?_)
        refine J_sub [0, 1] rfl ?_
        exact hk10 I18
      refine J_if_ne (pc := 106) hX (tgt := 120) (by decide) dX7_writes_106 (fun h19 => ?_) (fun h19 => ?_)
      · refine J_sub [0, 1, 2] rfl ?_
        exact hk13
      · refine J_aload_n (pc := 109) hX 0 rfl dX7_writes_109 ?_
        refine g_X7_7 (pc := 110) hX ht0 dX7_writes_110 ?_
        refine J_sipush (pc := 113) hX (v := (688 : Int32)) (by decide) dX7_writes_113 ?_
        refine J_iald (pc := 116) hX (N := 784) (fs_7_0 t0 ht0) (by decide) dX7_writes_116 (fun h20 => ?_)
        refine J_if_ne (pc := 117) hX (tgt := 139) (by decide) dX7_writes_117 (fun h21 => ?_) (fun h21 => ?_)
        · refine J_sub [0, 1] rfl ?_
          exact hk10 I7
        · refine J_sub [0, 1, 2] rfl ?_
          exact hk13
    have lhg24 : ∀ mq : Nat, ∀ (v22 : Int32) (I23 : jI), J Y Z 6 Qf (jfx (X7_writes_F1 t0 p0 p1 y6 k8) (fun _ _ => none) mq v22 I23) 27 [(0, jr t0), (1, ji p0), (2, ji p1), (3, ji y6), (4, ji v22)] [] 0 0 NC shC rfC I23 L0 := by
      intro mq
      refine jfx_J (fun (_ : Nat) (g24 : Int32 → jI → Option (Int32 × jI)) => ∀ (v22 : Int32) (I23 : jI), J Y Z 6 Qf (g24 v22 I23) 27 [(0, jr t0), (1, ji p0), (2, ji p1), (3, ji y6), (4, ji v22)] [] 0 0 NC shC rfC I23 L0) ?_ (fun _ g24 hg24 => ?_) mq
      · intro v22 I23
        exact J_none
      intro v22 I23
      unfold X7_writes_F1
      try dsimp only
      refine J_iload (pc := 27) hX 4 rfl dX7_writes_27 ?_
      refine J_aload_n (pc := 29) hX 0 rfl dX7_writes_29 ?_
      refine g_X7_7 (pc := 30) hX ht0 dX7_writes_30 ?_
      refine J_sipush (pc := 33) hX (v := (688 : Int32)) (by decide) dX7_writes_33 ?_
      refine J_iald (pc := 36) hX (N := 784) (fs_7_0 t0 ht0) (by decide) dX7_writes_36 (fun h25 => ?_)
      refine J_icmp_ge (pc := 37) hX (tgt := 105) (by decide) dX7_writes_37 (fun h26 => ?_) (fun h26 => ?_)
      · refine J_sub [0, 1, 2, 3] rfl ?_
        exact hk8 I23
      · refine J_aload_n (pc := 40) hX 0 rfl dX7_writes_40 ?_
        refine J_iload (pc := 41) hX 4 rfl dX7_writes_41 ?_
        refine J_iload_n (pc := 43) hX 1 rfl dX7_writes_43 ?_
        refine J_call1 (fun y27 e28 => ?_)
        refine jrun_i (pc := 44) (jRunV hX s_X7_73 (ci := 7) (T := TX7) (N := 20) (As := [ji v22, ji p0]) (rest := []) rfl (by decide) (C_X7_found Y hz0 t0 ht0 v22 p0 I23 L0 y27 e28) ht0 rfl rfl ⟨by decide, by decide⟩ ⟨Nat.le_of_ble_eq_true rfl, Nat.le_of_ble_eq_true rfl⟩ (Nat.le_of_ble_eq_true rfl) dX7_writes_44) ?_
        refine J_istore (pc := 47) hX (lo' := [(5, ji y27), (0, jr t0), (1, ji p0), (2, ji p1), (3, ji y6), (4, ji v22)]) (by decide) rfl dX7_writes_47 ?_
        refine J_iload (pc := 49) hX 0 rfl dX7_writes_49 ?_
        refine J_join (fun (k30 : jI → Option (Int32 × jI)) => ∀ (I29 : jI), J Y Z 6 Qf (k30 I29) 99 [(0, jr t0), (1, ji p0), (2, ji p1), (3, ji y6), (4, ji v22)] [] 0 0 NC shC rfC I29 L0) ?_ (fun k30 hk30 => ?_)
        · intro I29
          try dsimp only
          refine J_iinc (pc := 99) hX (v := (v22 + (1 : Int32))) (lo' := [(4, ji (v22 + (1 : Int32))), (0, jr t0), (1, ji p0), (2, ji p1), (3, ji y6)]) 4 rfl (by rfl) (by decide) rfl dX7_writes_99 ?_
          refine J_goto (pc := 102) hX (tgt := 27) (by decide) dX7_writes_102 ?_
          refine J_sub [1, 2, 3, 4, 0] rfl ?_
          exact hg24 (v22 + (1 : Int32)) I29
        refine J_if_lt (pc := 51) hX (tgt := 99) (by decide) dX7_writes_51 (fun h31 => ?_) (fun h31 => ?_)
        · refine J_sub [1, 2, 3, 4, 5] rfl ?_
          exact hk30 I23
        · refine J_iload (pc := 54) hX 5 rfl dX7_writes_54 ?_
          refine J_join (fun (k32 : Option (Int32 × jI)) => J Y Z 6 Qf (k32) 63 [(0, jr t0), (1, ji p0), (2, ji p1), (3, ji y6), (4, ji v22), (5, ji y27)] [] 0 0 NC shC rfC I23 L0) ?_ (fun k32 hk32 => ?_)
          · refine J_aload_n (pc := 63) hX 0 rfl dX7_writes_63 ?_
            refine g_X7_7 (pc := 64) hX ht0 dX7_writes_64 ?_
            refine J_iload (pc := 67) hX 4 rfl dX7_writes_67 ?_
            refine J_iload (pc := 69) hX 5 rfl dX7_writes_69 ?_
            refine J_iconst (pc := 71) hX (v := (1 : Int32)) (by decide) dX7_writes_71 ?_
            refine J_call1 (fun y33 e34 => ?_)
            refine jrun_i (pc := 72) (jRunS hX s_X7_55 (As := [ji v22, ji y27, ji (1 : Int32)]) (rest := [jr (rfC t0 0)]) (C_X7_slotAt Y hz0 v22 y27 (1 : Int32) I23 L0 y33 e34) rfl rfl ⟨by decide, by decide⟩ ⟨Nat.le_of_ble_eq_true rfl, Nat.le_of_ble_eq_true rfl⟩ (Nat.le_of_ble_eq_true rfl) dX7_writes_72) ?_
            refine J_iload_n (pc := 75) hX 2 rfl dX7_writes_75 ?_
            refine J_iast (pc := 76) hX (N := 784) (fs_7_0 t0 ht0) (by decide) dX7_writes_76 (fun h35 I36 => ?_)
            refine J_aload_n (pc := 77) hX 0 rfl dX7_writes_77 ?_
            refine g_X7_7 (pc := 78) hX ht0 dX7_writes_78 ?_
            refine J_iload (pc := 81) hX 4 rfl dX7_writes_81 ?_
            refine J_iload (pc := 83) hX 5 rfl dX7_writes_83 ?_
            refine J_iconst (pc := 85) hX (v := (2 : Int32)) (by decide) dX7_writes_85 ?_
            refine J_call1 (fun y37 e38 => ?_)
            refine jrun_i (pc := 86) (jRunS hX s_X7_55 (As := [ji v22, ji y27, ji (2 : Int32)]) (rest := [jr (rfC t0 0)]) (C_X7_slotAt Y hz0 v22 y27 (2 : Int32) I36 L0 y37 e38) rfl rfl ⟨by decide, by decide⟩ ⟨Nat.le_of_ble_eq_true rfl, Nat.le_of_ble_eq_true rfl⟩ (Nat.le_of_ble_eq_true rfl) dX7_writes_86) ?_
            refine J_iload_n (pc := 89) hX 3 rfl dX7_writes_89 ?_
            refine J_vjoin (fun kq (y40 : Int32) => J Y Z 6 Qf (kq) 98 [(0, jr t0), (1, ji p0), (2, ji p1), (3, ji y6), (4, ji v22), (5, ji y27)] [ji y40, ji y37, jr (rfC t0 0)] 0 0 NC shC rfC I36 L0) (fun y40 => ?_) (fun hj => ?_)
            · try dsimp only
              refine J_iast (pc := 98) hX (N := 784) (fs_7_0 t0 ht0) (by decide) dX7_writes_98 (fun h41 I42 => ?_)
              refine J_sub [0, 1, 2, 3, 4] rfl ?_
              exact hk30 I42
            try dsimp only at hj
            refine J_if_eqV (pc := 90) hX (tgt := 97) (by decide) dX7_writes_90 (fun h39 => ?_) (fun h39 => ?_)
            · refine J_iconst (pc := 97) hX (v := (1 : Int32)) (by decide) dX7_writes_97 ?_
              exact hj _
            · refine J_iconst (pc := 93) hX (v := (0 : Int32)) (by decide) dX7_writes_93 ?_
              refine J_goto (pc := 94) hX (tgt := 98) (by decide) dX7_writes_94 ?_
              exact hj _
          refine J_if_eq (pc := 56) hX (tgt := 63) (by decide) dX7_writes_56 (fun h43 => ?_) (fun h43 => ?_)
          · refine J_sub [1, 2, 3, 4, 5, 0] rfl ?_
            exact hk32
          · refine J_iload_n (pc := 59) hX 4 rfl dX7_writes_59 ?_
            refine J_if_eq (pc := 60) hX (tgt := 99) (by decide) dX7_writes_60 (fun h44 => ?_) (fun h44 => ?_)
            · refine J_sub [1, 2, 3, 4, 5] rfl ?_
              exact hk30 I23
            · refine J_sub [1, 2, 3, 4, 5, 0] rfl ?_
              exact hk32
    refine J_sub [2, 3, 4, 1, 0] rfl ?_
    exact lhg24 1000 (0 : Int32) I2
  try dsimp only at hj
  refine J_icmp_neV (pc := 15) hX (tgt := 22) (by decide) dX7_writes_15 (fun h5 => ?_) (fun h5 => ?_)
  · refine J_iconst (pc := 22) hX (v := (0 : Int32)) (by decide) dX7_writes_22 ?_
    exact hj _
  · refine J_iconst (pc := 18) hX (v := (1 : Int32)) (by decide) dX7_writes_18 ?_
    refine J_goto (pc := 19) hX (tgt := 23) (by decide) dX7_writes_19 ?_
    exact hj _
theorem C_X7_writes (Y : jY) (hz0 : Y.zf = false) (t0 : Nat) (ht0 : shC t0 = 8) (p0 : Int32) (p1 : Int32) (I0 : jI) (L0 : jL) (r : Int32) (I1 : jI) (h : X7_writes t0 p0 p1 I0 = some (r, I1)) : jMet Y yX7_writes cX7_writes 6 (some .int) 47 2225 0 0 [jr t0, ji p0, ji p1] NC shC rfC I0 L0 (some (ji r)) NC shC rfC I1 L0 :=
  jmet_of _ _ h (fun Z r => jQ Y Z 0 0 (some (ji r.1)) NC shC rfC r.2 L0) (fun _ => rfl) (by decide) (Nat.le_of_ble_eq_true rfl) (fun Z hX => W_X7_writes hz0 t0 ht0 p0 p1 I0 L0 hX (fun _ => rfl))
def X7_sweeps_F1 (t0 : Nat) (p0 : Int32) (g4 : Int32 → Int32 → jI → Option (Int32 × jI)) : Int32 → Int32 → jI → Option (Int32 × jI) := fun (v1 : Int32) (v2 : Int32) (I3 : jI) =>
(X7_of t0 p0 (0 : Int32) I3).bind (fun (y5 : Int32) =>
if y5 ≤ v2 then (
some (v1, I3))
else (
(X7_note t0 p0 v2 (0 : Int32) I3).bind (fun (y8 : Int32) =>
jlet (fun (v10 : Int32) (I11 : jI) =>
g4 v10 (v2 + (1 : Int32)) I11) (fun (k12 : Int32 → jI → Option (Int32 × jI)) =>
if y8 < 0 then (
k12 v1 I3)
else (
(X7_note t0 p0 v2 (2 : Int32) I3).bind (fun (y14 : Int32) =>
if y14 = (1 : Int32) then (
(X7_note t0 p0 v2 (0 : Int32) I3).bind (fun (y17 : Int32) =>
(X7_note t0 p0 v2 (1 : Int32) I3).bind (fun (y19 : Int32) =>
(X7_flushes t0 p0 y17 y19 I3).bind (fun (I21 : jI) =>
(X7_slotAt p0 v2 (2 : Int32)).bind (fun (y23 : Int32) =>
if jin y23 784 then jlet (jup I21 (rfC t0 0) (y23).toNatClampNeg (0 : Int32)) (fun (I26 : jI) =>
k12 (v1 + (1 : Int32)) I26) else none)))))
else (
k12 v1 I3)))))))
def X7_sweeps (t0 : Nat) (p0 : Int32) (I0 : jI) : Option (Int32 × jI) :=
jfx (X7_sweeps_F1 t0 p0) (fun _ _ _ => none) 1000 (0 : Int32) (0 : Int32) I0
set_option maxRecDepth 20000 in
set_option maxHeartbeats 4000000 in
theorem W_X7_sweeps {Y : jY} {Z : jZ} {Qf : Int32 × jI → State → Prop} (hz0 : Y.zf = false) (t0 : Nat) (ht0 : shC t0 = 8) (p0 : Int32) (I0 : jI) (L0 : jL) (hX : jOK Y Z RX7 cX7_sweeps 4 "sweeps" (some .int) 5 173 0 0) (hQ : ∀ r : Int32 × jI, Qf r = jQ Y Z 0 0 (some (ji r.1)) NC shC rfC r.2 L0) : J Y Z 4 Qf (X7_sweeps t0 p0 I0) 0 [(0, jr t0), (1, ji p0)] [] 0 0 NC shC rfC I0 L0 := by
  unfold X7_sweeps
  refine J_iconst (pc := 0) hX (v := (0 : Int32)) (by decide) dX7_sweeps_0 ?_
  refine J_istore_n (pc := 1) hX (lo' := [(2, ji (0 : Int32)), (0, jr t0), (1, ji p0)]) (by decide) rfl dX7_sweeps_1 ?_
  refine J_iconst (pc := 2) hX (v := (0 : Int32)) (by decide) dX7_sweeps_2 ?_
  refine J_istore_n (pc := 3) hX (lo' := [(3, ji (0 : Int32)), (2, ji (0 : Int32)), (0, jr t0), (1, ji p0)]) (by decide) rfl dX7_sweeps_3 ?_
  have lhg4 : ∀ mq : Nat, ∀ (v1 : Int32) (v2 : Int32) (I3 : jI), J Y Z 4 Qf (jfx (X7_sweeps_F1 t0 p0) (fun _ _ _ => none) mq v1 v2 I3) 4 [(0, jr t0), (1, ji p0), (2, ji v1), (3, ji v2)] [] 0 0 NC shC rfC I3 L0 := by
    intro mq
    refine jfx_J (fun (_ : Nat) (g4 : Int32 → Int32 → jI → Option (Int32 × jI)) => ∀ (v1 : Int32) (v2 : Int32) (I3 : jI), J Y Z 4 Qf (g4 v1 v2 I3) 4 [(0, jr t0), (1, ji p0), (2, ji v1), (3, ji v2)] [] 0 0 NC shC rfC I3 L0) ?_ (fun _ g4 hg4 => ?_) mq
    · intro v1 v2 I3
      exact J_none
    intro v1 v2 I3
    unfold X7_sweeps_F1
    try dsimp only
    refine J_iload_n (pc := 4) hX 3 rfl dX7_sweeps_4 ?_
    refine J_aload_n (pc := 5) hX 0 rfl dX7_sweeps_5 ?_
    refine J_iload_n (pc := 6) hX 1 rfl dX7_sweeps_6 ?_
    refine J_iconst (pc := 7) hX (v := (0 : Int32)) (by decide) dX7_sweeps_7 ?_
    refine J_call1 (fun y5 e6 => ?_)
    refine jrun_i (pc := 8) (jRunV hX s_X7_59 (ci := 7) (T := TX7) (N := 20) (As := [ji p0, ji (0 : Int32)]) (rest := [ji v2]) rfl (by decide) (C_X7_of Y hz0 t0 ht0 p0 (0 : Int32) I3 L0 y5 e6) ht0 rfl rfl ⟨by decide, by decide⟩ ⟨Nat.le_of_ble_eq_true rfl, Nat.le_of_ble_eq_true rfl⟩ (Nat.le_of_ble_eq_true rfl) dX7_sweeps_8) ?_
    refine J_icmp_ge (pc := 11) hX (tgt := 75) (by decide) dX7_sweeps_11 (fun h7 => ?_) (fun h7 => ?_)
    · refine J_iload_n (pc := 75) hX 2 rfl dX7_sweeps_75 ?_
      exact J_iret (pc := 76) hX (hQ _) dX7_sweeps_76
    · refine J_aload_n (pc := 14) hX 0 rfl dX7_sweeps_14 ?_
      refine J_iload_n (pc := 15) hX 1 rfl dX7_sweeps_15 ?_
      refine J_iload_n (pc := 16) hX 3 rfl dX7_sweeps_16 ?_
      refine J_iconst (pc := 17) hX (v := (0 : Int32)) (by decide) dX7_sweeps_17 ?_
      refine J_call1 (fun y8 e9 => ?_)
      refine jrun_i (pc := 18) (jRunV hX s_X7_62 (ci := 7) (T := TX7) (N := 20) (As := [ji p0, ji v2, ji (0 : Int32)]) (rest := []) rfl (by decide) (C_X7_note Y hz0 t0 ht0 p0 v2 (0 : Int32) I3 L0 y8 e9) ht0 rfl rfl ⟨by decide, by decide⟩ ⟨Nat.le_of_ble_eq_true rfl, Nat.le_of_ble_eq_true rfl⟩ (Nat.le_of_ble_eq_true rfl) dX7_sweeps_18) ?_
      refine J_join (fun (k12 : Int32 → jI → Option (Int32 × jI)) => ∀ (v10 : Int32) (I11 : jI), J Y Z 4 Qf (k12 v10 I11) 69 [(0, jr t0), (1, ji p0), (2, ji v10), (3, ji v2)] [] 0 0 NC shC rfC I11 L0) ?_ (fun k12 hk12 => ?_)
      · intro v10 I11
        try dsimp only
        refine J_iinc (pc := 69) hX (v := (v2 + (1 : Int32))) (lo' := [(3, ji (v2 + (1 : Int32))), (0, jr t0), (1, ji p0), (2, ji v10)]) 3 rfl (by rfl) (by decide) rfl dX7_sweeps_69 ?_
        refine J_goto (pc := 72) hX (tgt := 4) (by decide) dX7_sweeps_72 ?_
        refine J_sub [1, 2, 3, 0] rfl ?_
        exact hg4 v10 (v2 + (1 : Int32)) I11
      refine J_if_lt (pc := 21) hX (tgt := 69) (by decide) dX7_sweeps_21 (fun h13 => ?_) (fun h13 => ?_)
      · exact hk12 v1 I3
      · refine J_aload_n (pc := 24) hX 0 rfl dX7_sweeps_24 ?_
        refine J_iload_n (pc := 25) hX 1 rfl dX7_sweeps_25 ?_
        refine J_iload_n (pc := 26) hX 3 rfl dX7_sweeps_26 ?_
        refine J_iconst (pc := 27) hX (v := (2 : Int32)) (by decide) dX7_sweeps_27 ?_
        refine J_call1 (fun y14 e15 => ?_)
        refine jrun_i (pc := 28) (jRunV hX s_X7_62 (ci := 7) (T := TX7) (N := 20) (As := [ji p0, ji v2, ji (2 : Int32)]) (rest := []) rfl (by decide) (C_X7_note Y hz0 t0 ht0 p0 v2 (2 : Int32) I3 L0 y14 e15) ht0 rfl rfl ⟨by decide, by decide⟩ ⟨Nat.le_of_ble_eq_true rfl, Nat.le_of_ble_eq_true rfl⟩ (Nat.le_of_ble_eq_true rfl) dX7_sweeps_28) ?_
        refine J_iconst (pc := 31) hX (v := (1 : Int32)) (by decide) dX7_sweeps_31 ?_
        refine J_icmp_ne (pc := 32) hX (tgt := 69) (by decide) dX7_sweeps_32 (fun h16 => ?_) (fun h16 => ?_)
        · exact hk12 v1 I3
        · refine J_aload_n (pc := 35) hX 0 rfl dX7_sweeps_35 ?_
          refine J_iload_n (pc := 36) hX 1 rfl dX7_sweeps_36 ?_
          refine J_aload_n (pc := 37) hX 0 rfl dX7_sweeps_37 ?_
          refine J_iload_n (pc := 38) hX 1 rfl dX7_sweeps_38 ?_
          refine J_iload_n (pc := 39) hX 3 rfl dX7_sweeps_39 ?_
          refine J_iconst (pc := 40) hX (v := (0 : Int32)) (by decide) dX7_sweeps_40 ?_
          refine J_call1 (fun y17 e18 => ?_)
          refine jrun_i (pc := 41) (jRunV hX s_X7_62 (ci := 7) (T := TX7) (N := 20) (As := [ji p0, ji v2, ji (0 : Int32)]) (rest := [ji p0, jr t0]) rfl (by decide) (C_X7_note Y hz0 t0 ht0 p0 v2 (0 : Int32) I3 L0 y17 e18) ht0 rfl rfl ⟨by decide, by decide⟩ ⟨Nat.le_of_ble_eq_true rfl, Nat.le_of_ble_eq_true rfl⟩ (Nat.le_of_ble_eq_true rfl) dX7_sweeps_41) ?_
          refine J_aload_n (pc := 44) hX 0 rfl dX7_sweeps_44 ?_
          refine J_iload_n (pc := 45) hX 1 rfl dX7_sweeps_45 ?_
          refine J_iload_n (pc := 46) hX 3 rfl dX7_sweeps_46 ?_
          refine J_iconst (pc := 47) hX (v := (1 : Int32)) (by decide) dX7_sweeps_47 ?_
          refine J_call1 (fun y19 e20 => ?_)
          refine jrun_i (pc := 48) (jRunV hX s_X7_62 (ci := 7) (T := TX7) (N := 20) (As := [ji p0, ji v2, ji (1 : Int32)]) (rest := [ji y17, ji p0, jr t0]) rfl (by decide) (C_X7_note Y hz0 t0 ht0 p0 v2 (1 : Int32) I3 L0 y19 e20) ht0 rfl rfl ⟨by decide, by decide⟩ ⟨Nat.le_of_ble_eq_true rfl, Nat.le_of_ble_eq_true rfl⟩ (Nat.le_of_ble_eq_true rfl) dX7_sweeps_48) ?_
          refine J_call1 (fun I21 e22 => ?_)
          refine jrun_v (pc := 51) (jRunV hX s_X7_84 (ci := 7) (T := TX7) (N := 20) (As := [ji p0, ji y17, ji y19]) (rest := []) rfl (by decide) (C_X7_flushes Y hz0 t0 ht0 p0 y17 y19 I3 L0 I21 e22) ht0 rfl rfl ⟨by decide, by decide⟩ ⟨Nat.le_of_ble_eq_true rfl, Nat.le_of_ble_eq_true rfl⟩ (Nat.le_of_ble_eq_true rfl) dX7_sweeps_51) ?_
          refine J_aload_n (pc := 54) hX 0 rfl dX7_sweeps_54 ?_
          refine g_X7_7 (pc := 55) hX ht0 dX7_sweeps_55 ?_
          refine J_iload_n (pc := 58) hX 1 rfl dX7_sweeps_58 ?_
          refine J_iload_n (pc := 59) hX 3 rfl dX7_sweeps_59 ?_
          refine J_iconst (pc := 60) hX (v := (2 : Int32)) (by decide) dX7_sweeps_60 ?_
          refine J_call1 (fun y23 e24 => ?_)
          refine jrun_i (pc := 61) (jRunS hX s_X7_55 (As := [ji p0, ji v2, ji (2 : Int32)]) (rest := [jr (rfC t0 0)]) (C_X7_slotAt Y hz0 p0 v2 (2 : Int32) I21 L0 y23 e24) rfl rfl ⟨by decide, by decide⟩ ⟨Nat.le_of_ble_eq_true rfl, Nat.le_of_ble_eq_true rfl⟩ (Nat.le_of_ble_eq_true rfl) dX7_sweeps_61) ?_
          refine J_iconst (pc := 64) hX (v := (0 : Int32)) (by decide) dX7_sweeps_64 ?_
          refine J_iast (pc := 65) hX (N := 784) (fs_7_0 t0 ht0) (by decide) dX7_sweeps_65 (fun h25 I26 => ?_)
          refine J_iinc (pc := 66) hX (v := (v1 + (1 : Int32))) (lo' := [(2, ji (v1 + (1 : Int32))), (0, jr t0), (1, ji p0), (3, ji v2)]) 2 rfl (by rfl) (by decide) rfl dX7_sweeps_66 ?_
          refine J_sub [1, 2, 0, 3] rfl ?_
          exact hk12 (v1 + (1 : Int32)) I26
  refine J_sub [2, 3, 1, 0] rfl ?_
  exact lhg4 1000 (0 : Int32) (0 : Int32) I0
theorem C_X7_sweeps (Y : jY) (hz0 : Y.zf = false) (t0 : Nat) (ht0 : shC t0 = 8) (p0 : Int32) (I0 : jI) (L0 : jL) (r : Int32) (I1 : jI) (h : X7_sweeps t0 p0 I0 = some (r, I1)) : jMet Y yX7_sweeps cX7_sweeps 4 (some .int) 5 173 0 0 [jr t0, ji p0] NC shC rfC I0 L0 (some (ji r)) NC shC rfC I1 L0 :=
  jmet_of _ _ h (fun Z r => jQ Y Z 0 0 (some (ji r.1)) NC shC rfC r.2 L0) (fun _ => rfl) (by decide) (Nat.le_of_ble_eq_true rfl) (fun Z hX => W_X7_sweeps hz0 t0 ht0 p0 I0 L0 hX (fun _ => rfl))
def X7_sweepsOut_F1 (t0 : Nat) (v7 : Int32) (k17 : jI → Option (jI)) (g20 : Int32 → jI → Option (jI)) : Int32 → jI → Option (jI) := fun (v18 : Int32) (I19 : jI) =>
if (16 : Int32) ≤ v18 then (
k17 I19)
else (
(X7_empties t0 v7 v18 I19).bind (fun (I22 : jI) =>
g20 (v18 + (1 : Int32)) I22))
def X7_sweepsOut_F2 (t0 : Nat) (k4 : jI → Option (jI)) (g9 : Int32 → jI → Option (jI)) : Int32 → jI → Option (jI) := fun (v7 : Int32) (I8 : jI) =>
if jin (688 : Int32) 784 then (
if (I8 (rfC t0 0) ((688 : Int32)).toNatClampNeg) ≤ v7 then (
k4 I8)
else (
(X7_at v7 (3 : Int32)).bind (fun (y12 : Int32) =>
if jin y12 784 then jlet (jup I8 (rfC t0 0) (y12).toNatClampNeg (0 : Int32)) (fun (I15 : jI) =>
jlet (fun (I16 : jI) =>
g9 (v7 + (1 : Int32)) I16) (fun (k17 : jI → Option (jI)) =>
jfx (X7_sweepsOut_F1 t0 v7 k17) (fun _ _ => none) 1000 (0 : Int32) I15)) else none))) else none
def X7_sweepsOut_F3 (t0 : Nat) (k2 : jI → Option (jI)) (g26 : Int32 → jI → Option (jI)) : Int32 → jI → Option (jI) := fun (v24 : Int32) (I25 : jI) =>
if jin (688 : Int32) 784 then (
if (I25 (rfC t0 0) ((688 : Int32)).toNatClampNeg) ≤ v24 then (
k2 I25)
else (
jb2 (X7_sweeps t0 v24 I25) (fun (y29 : Int32) (I30 : jI) =>
g26 (v24 + (1 : Int32)) I30))) else none
def X7_sweepsOut (t0 : Nat) (I0 : jI) : Option (jI) :=
jlet (fun (I1 : jI) =>
jlet (fun (I3 : jI) =>
if jin (694 : Int32) 784 then jlet (jup I3 (rfC t0 0) ((694 : Int32)).toNatClampNeg (0 : Int32)) (fun (I6 : jI) =>
some I6) else none) (fun (k4 : jI → Option (jI)) =>
jfx (X7_sweepsOut_F2 t0 k4) (fun _ _ => none) 1000 (0 : Int32) I1)) (fun (k2 : jI → Option (jI)) =>
jfx (X7_sweepsOut_F3 t0 k2) (fun _ _ => none) 1000 (0 : Int32) I0)
set_option maxRecDepth 20000 in
set_option maxHeartbeats 4000000 in
theorem W_X7_sweepsOut {Y : jY} {Z : jZ} {Qf : jI → State → Prop} (hz0 : Y.zf = false) (t0 : Nat) (ht0 : shC t0 = 8) (I0 : jI) (L0 : jL) (hX : jOK Y Z RX7 cX7_sweepsOut 3 "sweepsOut" none 6 196 0 0) (hQ : ∀ r : jI, Qf r = jQ Y Z 0 0 none NC shC rfC r L0) : J Y Z 3 Qf (X7_sweepsOut t0 I0) 0 [(0, jr t0)] [] 0 0 NC shC rfC I0 L0 := by
  unfold X7_sweepsOut
  refine J_iconst (pc := 0) hX (v := (0 : Int32)) (by decide) dX7_sweepsOut_0 ?_
  refine J_istore_n (pc := 1) hX (lo' := [(1, ji (0 : Int32)), (0, jr t0)]) (by decide) rfl dX7_sweepsOut_1 ?_
  refine J_join (fun (k2 : jI → Option (jI)) => ∀ (I1 : jI), J Y Z 3 Qf (k2 I1) 26 [(0, jr t0)] [] 0 0 NC shC rfC I1 L0) ?_ (fun k2 hk2 => ?_)
  · intro I1
    try dsimp only
    refine J_iconst (pc := 26) hX (v := (0 : Int32)) (by decide) dX7_sweepsOut_26 ?_
    refine J_istore_n (pc := 27) hX (lo' := [(1, ji (0 : Int32)), (0, jr t0)]) (by decide) rfl dX7_sweepsOut_27 ?_
    refine J_join (fun (k4 : jI → Option (jI)) => ∀ (I3 : jI), J Y Z 3 Qf (k4 I3) 77 [(0, jr t0)] [] 0 0 NC shC rfC I3 L0) ?_ (fun k4 hk4 => ?_)
    · intro I3
      try dsimp only
      refine J_aload_n (pc := 77) hX 0 rfl dX7_sweepsOut_77 ?_
      refine g_X7_7 (pc := 78) hX ht0 dX7_sweepsOut_78 ?_
      refine J_sipush (pc := 81) hX (v := (694 : Int32)) (by decide) dX7_sweepsOut_81 ?_
      refine J_iconst (pc := 84) hX (v := (0 : Int32)) (by decide) dX7_sweepsOut_84 ?_
      refine J_iast (pc := 85) hX (N := 784) (fs_7_0 t0 ht0) (by decide) dX7_sweepsOut_85 (fun h5 I6 => ?_)
      exact J_vret (pc := 86) hX (hQ _) dX7_sweepsOut_86
    have lhg9 : ∀ mq : Nat, ∀ (v7 : Int32) (I8 : jI), J Y Z 3 Qf (jfx (X7_sweepsOut_F2 t0 k4) (fun _ _ => none) mq v7 I8) 28 [(0, jr t0), (1, ji v7)] [] 0 0 NC shC rfC I8 L0 := by
      intro mq
      refine jfx_J (fun (_ : Nat) (g9 : Int32 → jI → Option (jI)) => ∀ (v7 : Int32) (I8 : jI), J Y Z 3 Qf (g9 v7 I8) 28 [(0, jr t0), (1, ji v7)] [] 0 0 NC shC rfC I8 L0) ?_ (fun _ g9 hg9 => ?_) mq
      · intro v7 I8
        exact J_none
      intro v7 I8
      unfold X7_sweepsOut_F2
      try dsimp only
      refine J_iload_n (pc := 28) hX 1 rfl dX7_sweepsOut_28 ?_
      refine J_aload_n (pc := 29) hX 0 rfl dX7_sweepsOut_29 ?_
      refine g_X7_7 (pc := 30) hX ht0 dX7_sweepsOut_30 ?_
      refine J_sipush (pc := 33) hX (v := (688 : Int32)) (by decide) dX7_sweepsOut_33 ?_
      refine J_iald (pc := 36) hX (N := 784) (fs_7_0 t0 ht0) (by decide) dX7_sweepsOut_36 (fun h10 => ?_)
      refine J_icmp_ge (pc := 37) hX (tgt := 77) (by decide) dX7_sweepsOut_37 (fun h11 => ?_) (fun h11 => ?_)
      · refine J_sub [0] rfl ?_
        exact hk4 I8
      · refine J_aload_n (pc := 40) hX 0 rfl dX7_sweepsOut_40 ?_
        refine g_X7_7 (pc := 41) hX ht0 dX7_sweepsOut_41 ?_
        refine J_iload_n (pc := 44) hX 1 rfl dX7_sweepsOut_44 ?_
        refine J_iconst (pc := 45) hX (v := (3 : Int32)) (by decide) dX7_sweepsOut_45 ?_
        refine J_call1 (fun y12 e13 => ?_)
        refine jrun_i (pc := 46) (jRunS hX s_X7_51 (As := [ji v7, ji (3 : Int32)]) (rest := [jr (rfC t0 0)]) (C_X7_at Y hz0 v7 (3 : Int32) I8 L0 y12 e13) rfl rfl ⟨by decide, by decide⟩ ⟨Nat.le_of_ble_eq_true rfl, Nat.le_of_ble_eq_true rfl⟩ (Nat.le_of_ble_eq_true rfl) dX7_sweepsOut_46) ?_
        refine J_iconst (pc := 49) hX (v := (0 : Int32)) (by decide) dX7_sweepsOut_49 ?_
        refine J_iast (pc := 50) hX (N := 784) (fs_7_0 t0 ht0) (by decide) dX7_sweepsOut_50 (fun h14 I15 => ?_)
        refine J_iconst (pc := 51) hX (v := (0 : Int32)) (by decide) dX7_sweepsOut_51 ?_
        refine J_istore_n (pc := 52) hX (lo' := [(2, ji (0 : Int32)), (0, jr t0), (1, ji v7)]) (by decide) rfl dX7_sweepsOut_52 ?_
        refine J_join (fun (k17 : jI → Option (jI)) => ∀ (I16 : jI), J Y Z 3 Qf (k17 I16) 71 [(0, jr t0), (1, ji v7)] [] 0 0 NC shC rfC I16 L0) ?_ (fun k17 hk17 => ?_)
        · intro I16
          try dsimp only
          refine J_iinc (pc := 71) hX (v := (v7 + (1 : Int32))) (lo' := [(1, ji (v7 + (1 : Int32))), (0, jr t0)]) 1 rfl (by rfl) (by decide) rfl dX7_sweepsOut_71 ?_
          refine J_goto (pc := 74) hX (tgt := 28) (by decide) dX7_sweepsOut_74 ?_
          refine J_sub [1, 0] rfl ?_
          exact hg9 (v7 + (1 : Int32)) I16
        have lhg20 : ∀ mq : Nat, ∀ (v18 : Int32) (I19 : jI), J Y Z 3 Qf (jfx (X7_sweepsOut_F1 t0 v7 k17) (fun _ _ => none) mq v18 I19) 53 [(0, jr t0), (1, ji v7), (2, ji v18)] [] 0 0 NC shC rfC I19 L0 := by
          intro mq
          refine jfx_J (fun (_ : Nat) (g20 : Int32 → jI → Option (jI)) => ∀ (v18 : Int32) (I19 : jI), J Y Z 3 Qf (g20 v18 I19) 53 [(0, jr t0), (1, ji v7), (2, ji v18)] [] 0 0 NC shC rfC I19 L0) ?_ (fun _ g20 hg20 => ?_) mq
          · intro v18 I19
            exact J_none
          intro v18 I19
          unfold X7_sweepsOut_F1
          try dsimp only
          refine J_iload_n (pc := 53) hX 2 rfl dX7_sweepsOut_53 ?_
          refine J_bipush (pc := 54) hX (v := (16 : Int32)) (by decide) dX7_sweepsOut_54 ?_
          refine J_icmp_ge (pc := 56) hX (tgt := 71) (by decide) dX7_sweepsOut_56 (fun h21 => ?_) (fun h21 => ?_)
          · refine J_sub [0, 1] rfl ?_
            exact hk17 I19
          · refine J_aload_n (pc := 59) hX 0 rfl dX7_sweepsOut_59 ?_
            refine J_iload_n (pc := 60) hX 1 rfl dX7_sweepsOut_60 ?_
            refine J_iload_n (pc := 61) hX 2 rfl dX7_sweepsOut_61 ?_
            refine J_call1 (fun I22 e23 => ?_)
            refine jrun_v (pc := 62) (jRunV hX s_X7_76 (ci := 7) (T := TX7) (N := 20) (As := [ji v7, ji v18]) (rest := []) rfl (by decide) (C_X7_empties Y hz0 t0 ht0 v7 v18 I19 L0 I22 e23) ht0 rfl rfl ⟨by decide, by decide⟩ ⟨Nat.le_of_ble_eq_true rfl, Nat.le_of_ble_eq_true rfl⟩ (Nat.le_of_ble_eq_true rfl) dX7_sweepsOut_62) ?_
            refine J_iinc (pc := 65) hX (v := (v18 + (1 : Int32))) (lo' := [(2, ji (v18 + (1 : Int32))), (0, jr t0), (1, ji v7)]) 2 rfl (by rfl) (by decide) rfl dX7_sweepsOut_65 ?_
            refine J_goto (pc := 68) hX (tgt := 53) (by decide) dX7_sweepsOut_68 ?_
            refine J_sub [1, 2, 0] rfl ?_
            exact hg20 (v18 + (1 : Int32)) I22
        refine J_sub [1, 2, 0] rfl ?_
        exact lhg20 1000 (0 : Int32) I15
    refine J_sub [1, 0] rfl ?_
    exact lhg9 1000 (0 : Int32) I1
  have lhg26 : ∀ mq : Nat, ∀ (v24 : Int32) (I25 : jI), J Y Z 3 Qf (jfx (X7_sweepsOut_F3 t0 k2) (fun _ _ => none) mq v24 I25) 2 [(0, jr t0), (1, ji v24)] [] 0 0 NC shC rfC I25 L0 := by
    intro mq
    refine jfx_J (fun (_ : Nat) (g26 : Int32 → jI → Option (jI)) => ∀ (v24 : Int32) (I25 : jI), J Y Z 3 Qf (g26 v24 I25) 2 [(0, jr t0), (1, ji v24)] [] 0 0 NC shC rfC I25 L0) ?_ (fun _ g26 hg26 => ?_) mq
    · intro v24 I25
      exact J_none
    intro v24 I25
    unfold X7_sweepsOut_F3
    try dsimp only
    refine J_iload_n (pc := 2) hX 1 rfl dX7_sweepsOut_2 ?_
    refine J_aload_n (pc := 3) hX 0 rfl dX7_sweepsOut_3 ?_
    refine g_X7_7 (pc := 4) hX ht0 dX7_sweepsOut_4 ?_
    refine J_sipush (pc := 7) hX (v := (688 : Int32)) (by decide) dX7_sweepsOut_7 ?_
    refine J_iald (pc := 10) hX (N := 784) (fs_7_0 t0 ht0) (by decide) dX7_sweepsOut_10 (fun h27 => ?_)
    refine J_icmp_ge (pc := 11) hX (tgt := 26) (by decide) dX7_sweepsOut_11 (fun h28 => ?_) (fun h28 => ?_)
    · refine J_sub [0] rfl ?_
      exact hk2 I25
    · refine J_aload_n (pc := 14) hX 0 rfl dX7_sweepsOut_14 ?_
      refine J_iload_n (pc := 15) hX 1 rfl dX7_sweepsOut_15 ?_
      refine J_call2 (fun y29 I30 e31 => ?_)
      refine jrun_i (pc := 16) (jRunV hX s_X7_116 (ci := 7) (T := TX7) (N := 20) (As := [ji v24]) (rest := []) rfl (by decide) (C_X7_sweeps Y hz0 t0 ht0 v24 I25 L0 y29 I30 e31) ht0 rfl rfl ⟨by decide, by decide⟩ ⟨Nat.le_of_ble_eq_true rfl, Nat.le_of_ble_eq_true rfl⟩ (Nat.le_of_ble_eq_true rfl) dX7_sweepsOut_16) ?_
      refine J_pop (pc := 19) hX rfl dX7_sweepsOut_19 ?_
      refine J_iinc (pc := 20) hX (v := (v24 + (1 : Int32))) (lo' := [(1, ji (v24 + (1 : Int32))), (0, jr t0)]) 1 rfl (by rfl) (by decide) rfl dX7_sweepsOut_20 ?_
      refine J_goto (pc := 23) hX (tgt := 2) (by decide) dX7_sweepsOut_23 ?_
      refine J_sub [1, 0] rfl ?_
      exact hg26 (v24 + (1 : Int32)) I30
  refine J_sub [1, 0] rfl ?_
  exact lhg26 1000 (0 : Int32) I0
theorem C_X7_sweepsOut (Y : jY) (hz0 : Y.zf = false) (t0 : Nat) (ht0 : shC t0 = 8) (I0 : jI) (L0 : jL) (I1 : jI) (h : X7_sweepsOut t0 I0 = some I1) : jMet Y yX7_sweepsOut cX7_sweepsOut 3 none 6 196 0 0 [jr t0] NC shC rfC I0 L0 none NC shC rfC I1 L0 :=
  jmet_of _ _ h (fun Z r => jQ Y Z 0 0 none NC shC rfC r L0) (fun _ => rfl) (by decide) (Nat.le_of_ble_eq_true rfl) (fun Z hX => W_X7_sweepsOut hz0 t0 ht0 I0 L0 hX (fun _ => rfl))
def X7_level_F1 (t0 : Nat) (y21 : Int32) (k25 : jI → Option (Int32 × jI)) (g44 : Int32 → jI → Option (Int32 × jI)) : Int32 → jI → Option (Int32 × jI) := fun (v42 : Int32) (I43 : jI) =>
if (16 : Int32) ≤ v42 then (
k25 I43)
else (
(X7_empties t0 y21 v42 I43).bind (fun (I46 : jI) =>
g44 (v42 + (1 : Int32)) I46))
def X7_level_F2 (t0 : Nat) (y21 : Int32) (k23 : jI → Option (Int32 × jI)) (g50 : Int32 → jI → Option (Int32 × jI)) : Int32 → jI → Option (Int32 × jI) := fun (v48 : Int32) (I49 : jI) =>
if (140 : Int32) ≤ v48 then (
k23 I49)
else (
(X7_at y21 v48).bind (fun (y52 : Int32) =>
if jin y52 784 then jlet (jup I49 (rfC t0 0) (y52).toNatClampNeg (0 : Int32)) (fun (I55 : jI) =>
g50 (v48 + (1 : Int32)) I55) else none))
def X7_level (t0 : Nat) (p0 : Int32) (p1 : Int32) (p2 : Int32) (I0 : jI) : Option (Int32 × jI) :=
(X7_isIn ((p0).toInt64) (1 : Int64) (16 : Int64)).bind (fun (y1 : Int32) =>
if y1 = 0 then (
jb2 (X7_refuses t0 (-52 : Int32) I0) (fun (y4 : Int32) (I5 : jI) =>
some (y4, I5)))
else (
(X7_isIn ((p1).toInt64) (0 : Int64) (99 : Int64)).bind (fun (y7 : Int32) =>
if y7 = 0 then (
jb2 (X7_refuses t0 (-52 : Int32) I0) (fun (y10 : Int32) (I11 : jI) =>
some (y10, I11)))
else (
(X7_isIn ((p2).toInt64) (3 : Int64) (8 : Int64)).bind (fun (y13 : Int32) =>
if y13 = 0 then (
jb2 (X7_refuses t0 (-52 : Int32) I0) (fun (y59 : Int32) (I60 : jI) =>
some (y59, I60)))
else (
if jin (688 : Int32) 784 then (
if (I0 (rfC t0 0) ((688 : Int32)).toNatClampNeg) = (4 : Int32) then (
jb2 (X7_refuses t0 (-56 : Int32) I0) (fun (y56 : Int32) (I57 : jI) =>
some (y56, I57)))
else (
(X7_sweepsOut t0 I0).bind (fun (I18 : jI) =>
if jin (688 : Int32) 784 then (
jlet ((I18 (rfC t0 0) ((688 : Int32)).toNatClampNeg)) (fun (y21 : Int32) =>
jlet (fun (I22 : jI) =>
jlet (fun (I24 : jI) =>
(X7_at y21 (0 : Int32)).bind (fun (y26 : Int32) =>
if jin y26 784 then jlet (jup I24 (rfC t0 0) (y26).toNatClampNeg p0) (fun (I29 : jI) =>
(X7_at y21 (1 : Int32)).bind (fun (y30 : Int32) =>
if jin y30 784 then jlet (jup I29 (rfC t0 0) (y30).toNatClampNeg p1) (fun (I33 : jI) =>
(X7_at y21 (2 : Int32)).bind (fun (y34 : Int32) =>
if jin y34 784 then jlet (jup I33 (rfC t0 0) (y34).toNatClampNeg p2) (fun (I37 : jI) =>
if jin (688 : Int32) 784 then (
if jin (688 : Int32) 784 then jlet (jup I37 (rfC t0 0) ((688 : Int32)).toNatClampNeg ((I37 (rfC t0 0) ((688 : Int32)).toNatClampNeg) + (1 : Int32))) (fun (I40 : jI) =>
if jin (688 : Int32) 784 then (
some ((I40 (rfC t0 0) ((688 : Int32)).toNatClampNeg), I40)) else none) else none) else none) else none)) else none)) else none)) (fun (k25 : jI → Option (Int32 × jI)) =>
jfx (X7_level_F1 t0 y21 k25) (fun _ _ => none) 1000 (0 : Int32) I22)) (fun (k23 : jI → Option (Int32 × jI)) =>
jfx (X7_level_F2 t0 y21 k23) (fun _ _ => none) 1000 (0 : Int32) I18))) else none))) else none))))))
set_option maxRecDepth 20000 in
set_option maxHeartbeats 4000000 in
theorem W_X7_level {Y : jY} {Z : jZ} {Qf : Int32 × jI → State → Prop} (hz0 : Y.zf = false) (t0 : Nat) (ht0 : shC t0 = 8) (p0 : Int32) (p1 : Int32) (p2 : Int32) (I0 : jI) (L0 : jL) (hX : jOK Y Z RX7 cX7_level 6 "level" (some .int) 7 218 0 0) (hQ : ∀ r : Int32 × jI, Qf r = jQ Y Z 0 0 (some (ji r.1)) NC shC rfC r.2 L0) : J Y Z 6 Qf (X7_level t0 p0 p1 p2 I0) 0 [(0, jr t0), (1, ji p0), (2, ji p1), (3, ji p2)] [] 0 0 NC shC rfC I0 L0 := by
  unfold X7_level
  refine J_iload_n (pc := 0) hX 1 rfl dX7_level_0 ?_
  refine J_i2l (pc := 1) hX dX7_level_1 ?_
  refine J_lconst (pc := 2) hX (v := (1 : Int64)) (by decide) dX7_level_2 ?_
  refine J_ldc2 (pc := 3) hX q_X7_119 dX7_level_3 ?_
  refine J_call1 (fun y1 e2 => ?_)
  refine jrun_i (pc := 6) (jRunS hX s_X7_47 (As := [jl ((p0).toInt64), jl (1 : Int64), jl (16 : Int64)]) (rest := []) (C_X7_isIn Y hz0 ((p0).toInt64) (1 : Int64) (16 : Int64) I0 L0 y1 e2) rfl rfl ⟨by decide, by decide⟩ ⟨Nat.le_of_ble_eq_true rfl, Nat.le_of_ble_eq_true rfl⟩ (Nat.le_of_ble_eq_true rfl) dX7_level_6) ?_
  refine J_if_eq (pc := 9) hX (tgt := 38) (by decide) dX7_level_9 (fun h3 => ?_) (fun h3 => ?_)
  · refine J_aload_n (pc := 38) hX 0 rfl dX7_level_38 ?_
    refine J_bipush (pc := 39) hX (v := (-52 : Int32)) (by decide) dX7_level_39 ?_
    refine J_call2 (fun y4 I5 e6 => ?_)
    refine jrun_i (pc := 41) (jRunV hX s_X7_127 (ci := 7) (T := TX7) (N := 20) (As := [ji (-52 : Int32)]) (rest := []) rfl (by decide) (C_X7_refuses Y hz0 t0 ht0 (-52 : Int32) I0 L0 y4 I5 e6) ht0 rfl rfl ⟨by decide, by decide⟩ ⟨Nat.le_of_ble_eq_true rfl, Nat.le_of_ble_eq_true rfl⟩ (Nat.le_of_ble_eq_true rfl) dX7_level_41) ?_
    exact J_iret (pc := 44) hX (hQ _) dX7_level_44
  · refine J_iload_n (pc := 12) hX 2 rfl dX7_level_12 ?_
    refine J_i2l (pc := 13) hX dX7_level_13 ?_
    refine J_lconst (pc := 14) hX (v := (0 : Int64)) (by decide) dX7_level_14 ?_
    refine J_ldc2 (pc := 15) hX q_X7_121 dX7_level_15 ?_
    refine J_call1 (fun y7 e8 => ?_)
    refine jrun_i (pc := 18) (jRunS hX s_X7_47 (As := [jl ((p1).toInt64), jl (0 : Int64), jl (99 : Int64)]) (rest := []) (C_X7_isIn Y hz0 ((p1).toInt64) (0 : Int64) (99 : Int64) I0 L0 y7 e8) rfl rfl ⟨by decide, by decide⟩ ⟨Nat.le_of_ble_eq_true rfl, Nat.le_of_ble_eq_true rfl⟩ (Nat.le_of_ble_eq_true rfl) dX7_level_18) ?_
    refine J_if_eq (pc := 21) hX (tgt := 38) (by decide) dX7_level_21 (fun h9 => ?_) (fun h9 => ?_)
    · refine J_aload_n (pc := 38) hX 0 rfl dX7_level_38 ?_
      refine J_bipush (pc := 39) hX (v := (-52 : Int32)) (by decide) dX7_level_39 ?_
      refine J_call2 (fun y10 I11 e12 => ?_)
      refine jrun_i (pc := 41) (jRunV hX s_X7_127 (ci := 7) (T := TX7) (N := 20) (As := [ji (-52 : Int32)]) (rest := []) rfl (by decide) (C_X7_refuses Y hz0 t0 ht0 (-52 : Int32) I0 L0 y10 I11 e12) ht0 rfl rfl ⟨by decide, by decide⟩ ⟨Nat.le_of_ble_eq_true rfl, Nat.le_of_ble_eq_true rfl⟩ (Nat.le_of_ble_eq_true rfl) dX7_level_41) ?_
      exact J_iret (pc := 44) hX (hQ _) dX7_level_44
    · refine J_iload_n (pc := 24) hX 3 rfl dX7_level_24 ?_
      refine J_i2l (pc := 25) hX dX7_level_25 ?_
      refine J_ldc2 (pc := 26) hX q_X7_123 dX7_level_26 ?_
      refine J_ldc2 (pc := 29) hX q_X7_125 dX7_level_29 ?_
      refine J_call1 (fun y13 e14 => ?_)
      refine jrun_i (pc := 32) (jRunS hX s_X7_47 (As := [jl ((p2).toInt64), jl (3 : Int64), jl (8 : Int64)]) (rest := []) (C_X7_isIn Y hz0 ((p2).toInt64) (3 : Int64) (8 : Int64) I0 L0 y13 e14) rfl rfl ⟨by decide, by decide⟩ ⟨Nat.le_of_ble_eq_true rfl, Nat.le_of_ble_eq_true rfl⟩ (Nat.le_of_ble_eq_true rfl) dX7_level_32) ?_
      refine J_if_ne (pc := 35) hX (tgt := 45) (by decide) dX7_level_35 (fun h15 => ?_) (fun h15 => ?_)
      · refine J_aload_n (pc := 45) hX 0 rfl dX7_level_45 ?_
        refine g_X7_7 (pc := 46) hX ht0 dX7_level_46 ?_
        refine J_sipush (pc := 49) hX (v := (688 : Int32)) (by decide) dX7_level_49 ?_
        refine J_iald (pc := 52) hX (N := 784) (fs_7_0 t0 ht0) (by decide) dX7_level_52 (fun h16 => ?_)
        refine J_iconst (pc := 53) hX (v := (4 : Int32)) (by decide) dX7_level_53 ?_
        refine J_icmp_ne (pc := 54) hX (tgt := 64) (by decide) dX7_level_54 (fun h17 => ?_) (fun h17 => ?_)
        · refine J_aload_n (pc := 64) hX 0 rfl dX7_level_64 ?_
          refine J_call1 (fun I18 e19 => ?_)
          refine jrun_v (pc := 65) (jRunV hX s_X7_130 (ci := 7) (T := TX7) (N := 20) (As := []) (rest := []) rfl (by decide) (C_X7_sweepsOut Y hz0 t0 ht0 I0 L0 I18 e19) ht0 rfl rfl ⟨by decide, by decide⟩ ⟨Nat.le_of_ble_eq_true rfl, Nat.le_of_ble_eq_true rfl⟩ (Nat.le_of_ble_eq_true rfl) dX7_level_65) ?_
          refine J_aload_n (pc := 68) hX 0 rfl dX7_level_68 ?_
          refine g_X7_7 (pc := 69) hX ht0 dX7_level_69 ?_
          refine J_sipush (pc := 72) hX (v := (688 : Int32)) (by decide) dX7_level_72 ?_
          refine J_iald (pc := 75) hX (N := 784) (fs_7_0 t0 ht0) (by decide) dX7_level_75 (fun h20 => ?_)
          refine J_leti (fun y21 => ?_)
          refine J_istore (pc := 76) hX (lo' := [(4, ji y21), (0, jr t0), (1, ji p0), (2, ji p1), (3, ji p2)]) (by decide) rfl dX7_level_76 ?_
          refine J_iconst (pc := 78) hX (v := (0 : Int32)) (by decide) dX7_level_78 ?_
          refine J_istore (pc := 79) hX (lo' := [(5, ji (0 : Int32)), (4, ji y21), (0, jr t0), (1, ji p0), (2, ji p1), (3, ji p2)]) (by decide) rfl dX7_level_79 ?_
          refine J_join (fun (k23 : jI → Option (Int32 × jI)) => ∀ (I22 : jI), J Y Z 6 Qf (k23 I22) 108 [(0, jr t0), (1, ji p0), (2, ji p1), (3, ji p2), (4, ji y21)] [] 0 0 NC shC rfC I22 L0) ?_ (fun k23 hk23 => ?_)
          · intro I22
            try dsimp only
            refine J_iconst (pc := 108) hX (v := (0 : Int32)) (by decide) dX7_level_108 ?_
            refine J_istore (pc := 109) hX (lo' := [(5, ji (0 : Int32)), (0, jr t0), (1, ji p0), (2, ji p1), (3, ji p2), (4, ji y21)]) (by decide) rfl dX7_level_109 ?_
            refine J_join (fun (k25 : jI → Option (Int32 × jI)) => ∀ (I24 : jI), J Y Z 6 Qf (k25 I24) 132 [(0, jr t0), (1, ji p0), (2, ji p1), (3, ji p2), (4, ji y21)] [] 0 0 NC shC rfC I24 L0) ?_ (fun k25 hk25 => ?_)
            · intro I24
              try dsimp only
              refine J_aload_n (pc := 132) hX 0 rfl dX7_level_132 ?_
              refine g_X7_7 (pc := 133) hX ht0 dX7_level_133 ?_
              refine J_iload (pc := 136) hX 4 rfl dX7_level_136 ?_
              refine J_iconst (pc := 138) hX (v := (0 : Int32)) (by decide) dX7_level_138 ?_
              refine J_call1 (fun y26 e27 => ?_)
              refine jrun_i (pc := 139) (jRunS hX s_X7_51 (As := [ji y21, ji (0 : Int32)]) (rest := [jr (rfC t0 0)]) (C_X7_at Y hz0 y21 (0 : Int32) I24 L0 y26 e27) rfl rfl ⟨by decide, by decide⟩ ⟨Nat.le_of_ble_eq_true rfl, Nat.le_of_ble_eq_true rfl⟩ (Nat.le_of_ble_eq_true rfl) dX7_level_139) ?_
              refine J_iload_n (pc := 142) hX 1 rfl dX7_level_142 ?_
              refine J_iast (pc := 143) hX (N := 784) (fs_7_0 t0 ht0) (by decide) dX7_level_143 (fun h28 I29 => ?_)
              refine J_aload_n (pc := 144) hX 0 rfl dX7_level_144 ?_
              refine g_X7_7 (pc := 145) hX ht0 dX7_level_145 ?_
              refine J_iload (pc := 148) hX 4 rfl dX7_level_148 ?_
              refine J_iconst (pc := 150) hX (v := (1 : Int32)) (by decide) dX7_level_150 ?_
              refine J_call1 (fun y30 e31 => ?_)
              refine jrun_i (pc := 151) (jRunS hX s_X7_51 (As := [ji y21, ji (1 : Int32)]) (rest := [jr (rfC t0 0)]) (C_X7_at Y hz0 y21 (1 : Int32) I29 L0 y30 e31) rfl rfl ⟨by decide, by decide⟩ ⟨Nat.le_of_ble_eq_true rfl, Nat.le_of_ble_eq_true rfl⟩ (Nat.le_of_ble_eq_true rfl) dX7_level_151) ?_
              refine J_iload_n (pc := 154) hX 2 rfl dX7_level_154 ?_
              refine J_iast (pc := 155) hX (N := 784) (fs_7_0 t0 ht0) (by decide) dX7_level_155 (fun h32 I33 => ?_)
              refine J_aload_n (pc := 156) hX 0 rfl dX7_level_156 ?_
              refine g_X7_7 (pc := 157) hX ht0 dX7_level_157 ?_
              refine J_iload (pc := 160) hX 4 rfl dX7_level_160 ?_
              refine J_iconst (pc := 162) hX (v := (2 : Int32)) (by decide) dX7_level_162 ?_
              refine J_call1 (fun y34 e35 => ?_)
              refine jrun_i (pc := 163) (jRunS hX s_X7_51 (As := [ji y21, ji (2 : Int32)]) (rest := [jr (rfC t0 0)]) (C_X7_at Y hz0 y21 (2 : Int32) I33 L0 y34 e35) rfl rfl ⟨by decide, by decide⟩ ⟨Nat.le_of_ble_eq_true rfl, Nat.le_of_ble_eq_true rfl⟩ (Nat.le_of_ble_eq_true rfl) dX7_level_163) ?_
              refine J_iload_n (pc := 166) hX 3 rfl dX7_level_166 ?_
              refine J_iast (pc := 167) hX (N := 784) (fs_7_0 t0 ht0) (by decide) dX7_level_167 (fun h36 I37 => ?_)
              refine J_aload_n (pc := 168) hX 0 rfl dX7_level_168 ?_
              refine g_X7_7 (pc := 169) hX ht0 dX7_level_169 ?_
              refine J_sipush (pc := 172) hX (v := (688 : Int32)) (by decide) dX7_level_172 ?_
              refine J_dup2 (pc := 175) hX rfl rfl dX7_level_175 ?_
              refine J_iald (pc := 176) hX (N := 784) (fs_7_0 t0 ht0) (by decide) dX7_level_176 (fun h38 => ?_)
              refine J_iconst (pc := 177) hX (v := (1 : Int32)) (by decide) dX7_level_177 ?_
              refine J_iadd (pc := 178) hX dX7_level_178 ?_
              refine J_iast (pc := 179) hX (N := 784) (fs_7_0 t0 ht0) (by decide) dX7_level_179 (fun h39 I40 => ?_)
              refine J_aload_n (pc := 180) hX 0 rfl dX7_level_180 ?_
              refine g_X7_7 (pc := 181) hX ht0 dX7_level_181 ?_
              refine J_sipush (pc := 184) hX (v := (688 : Int32)) (by decide) dX7_level_184 ?_
              refine J_iald (pc := 187) hX (N := 784) (fs_7_0 t0 ht0) (by decide) dX7_level_187 (fun h41 => ?_)
              exact J_iret (pc := 188) hX (hQ _) dX7_level_188
            have lhg44 : ∀ mq : Nat, ∀ (v42 : Int32) (I43 : jI), J Y Z 6 Qf (jfx (X7_level_F1 t0 y21 k25) (fun _ _ => none) mq v42 I43) 111 [(0, jr t0), (1, ji p0), (2, ji p1), (3, ji p2), (4, ji y21), (5, ji v42)] [] 0 0 NC shC rfC I43 L0 := by
              intro mq
              refine jfx_J (fun (_ : Nat) (g44 : Int32 → jI → Option (Int32 × jI)) => ∀ (v42 : Int32) (I43 : jI), J Y Z 6 Qf (g44 v42 I43) 111 [(0, jr t0), (1, ji p0), (2, ji p1), (3, ji p2), (4, ji y21), (5, ji v42)] [] 0 0 NC shC rfC I43 L0) ?_ (fun _ g44 hg44 => ?_) mq
              · intro v42 I43
                exact J_none
              intro v42 I43
              unfold X7_level_F1
              try dsimp only
              refine J_iload (pc := 111) hX 5 rfl dX7_level_111 ?_
              refine J_bipush (pc := 113) hX (v := (16 : Int32)) (by decide) dX7_level_113 ?_
              refine J_icmp_ge (pc := 115) hX (tgt := 132) (by decide) dX7_level_115 (fun h45 => ?_) (fun h45 => ?_)
              · refine J_sub [0, 1, 2, 3, 4] rfl ?_
                exact hk25 I43
              · refine J_aload_n (pc := 118) hX 0 rfl dX7_level_118 ?_
                refine J_iload (pc := 119) hX 4 rfl dX7_level_119 ?_
                refine J_iload (pc := 121) hX 5 rfl dX7_level_121 ?_
                refine J_call1 (fun I46 e47 => ?_)
                refine jrun_v (pc := 123) (jRunV hX s_X7_76 (ci := 7) (T := TX7) (N := 20) (As := [ji y21, ji v42]) (rest := []) rfl (by decide) (C_X7_empties Y hz0 t0 ht0 y21 v42 I43 L0 I46 e47) ht0 rfl rfl ⟨by decide, by decide⟩ ⟨Nat.le_of_ble_eq_true rfl, Nat.le_of_ble_eq_true rfl⟩ (Nat.le_of_ble_eq_true rfl) dX7_level_123) ?_
                refine J_iinc (pc := 126) hX (v := (v42 + (1 : Int32))) (lo' := [(5, ji (v42 + (1 : Int32))), (0, jr t0), (1, ji p0), (2, ji p1), (3, ji p2), (4, ji y21)]) 5 rfl (by rfl) (by decide) rfl dX7_level_126 ?_
                refine J_goto (pc := 129) hX (tgt := 111) (by decide) dX7_level_129 ?_
                refine J_sub [1, 2, 3, 4, 5, 0] rfl ?_
                exact hg44 (v42 + (1 : Int32)) I46
            refine J_sub [1, 2, 3, 4, 5, 0] rfl ?_
            exact lhg44 1000 (0 : Int32) I22
          have lhg50 : ∀ mq : Nat, ∀ (v48 : Int32) (I49 : jI), J Y Z 6 Qf (jfx (X7_level_F2 t0 y21 k23) (fun _ _ => none) mq v48 I49) 81 [(0, jr t0), (1, ji p0), (2, ji p1), (3, ji p2), (4, ji y21), (5, ji v48)] [] 0 0 NC shC rfC I49 L0 := by
            intro mq
            refine jfx_J (fun (_ : Nat) (g50 : Int32 → jI → Option (Int32 × jI)) => ∀ (v48 : Int32) (I49 : jI), J Y Z 6 Qf (g50 v48 I49) 81 [(0, jr t0), (1, ji p0), (2, ji p1), (3, ji p2), (4, ji y21), (5, ji v48)] [] 0 0 NC shC rfC I49 L0) ?_ (fun _ g50 hg50 => ?_) mq
            · intro v48 I49
              exact J_none
            intro v48 I49
            unfold X7_level_F2
            try dsimp only
            refine J_iload (pc := 81) hX 5 rfl dX7_level_81 ?_
            refine J_sipush (pc := 83) hX (v := (140 : Int32)) (by decide) dX7_level_83 ?_
            refine J_icmp_ge (pc := 86) hX (tgt := 108) (by decide) dX7_level_86 (fun h51 => ?_) (fun h51 => ?_)
            · refine J_sub [0, 1, 2, 3, 4] rfl ?_
              exact hk23 I49
            · refine J_aload_n (pc := 89) hX 0 rfl dX7_level_89 ?_
              refine g_X7_7 (pc := 90) hX ht0 dX7_level_90 ?_
              refine J_iload (pc := 93) hX 4 rfl dX7_level_93 ?_
              refine J_iload (pc := 95) hX 5 rfl dX7_level_95 ?_
              refine J_call1 (fun y52 e53 => ?_)
              refine jrun_i (pc := 97) (jRunS hX s_X7_51 (As := [ji y21, ji v48]) (rest := [jr (rfC t0 0)]) (C_X7_at Y hz0 y21 v48 I49 L0 y52 e53) rfl rfl ⟨by decide, by decide⟩ ⟨Nat.le_of_ble_eq_true rfl, Nat.le_of_ble_eq_true rfl⟩ (Nat.le_of_ble_eq_true rfl) dX7_level_97) ?_
              refine J_iconst (pc := 100) hX (v := (0 : Int32)) (by decide) dX7_level_100 ?_
              refine J_iast (pc := 101) hX (N := 784) (fs_7_0 t0 ht0) (by decide) dX7_level_101 (fun h54 I55 => ?_)
              refine J_iinc (pc := 102) hX (v := (v48 + (1 : Int32))) (lo' := [(5, ji (v48 + (1 : Int32))), (0, jr t0), (1, ji p0), (2, ji p1), (3, ji p2), (4, ji y21)]) 5 rfl (by rfl) (by decide) rfl dX7_level_102 ?_
              refine J_goto (pc := 105) hX (tgt := 81) (by decide) dX7_level_105 ?_
              refine J_sub [1, 2, 3, 4, 5, 0] rfl ?_
              exact hg50 (v48 + (1 : Int32)) I55
          refine J_sub [2, 3, 4, 5, 1, 0] rfl ?_
          exact lhg50 1000 (0 : Int32) I18
        · refine J_aload_n (pc := 57) hX 0 rfl dX7_level_57 ?_
          refine J_bipush (pc := 58) hX (v := (-56 : Int32)) (by decide) dX7_level_58 ?_
          refine J_call2 (fun y56 I57 e58 => ?_)
          refine jrun_i (pc := 60) (jRunV hX s_X7_127 (ci := 7) (T := TX7) (N := 20) (As := [ji (-56 : Int32)]) (rest := []) rfl (by decide) (C_X7_refuses Y hz0 t0 ht0 (-56 : Int32) I0 L0 y56 I57 e58) ht0 rfl rfl ⟨by decide, by decide⟩ ⟨Nat.le_of_ble_eq_true rfl, Nat.le_of_ble_eq_true rfl⟩ (Nat.le_of_ble_eq_true rfl) dX7_level_60) ?_
          exact J_iret (pc := 63) hX (hQ _) dX7_level_63
      · refine J_aload_n (pc := 38) hX 0 rfl dX7_level_38 ?_
        refine J_bipush (pc := 39) hX (v := (-52 : Int32)) (by decide) dX7_level_39 ?_
        refine J_call2 (fun y59 I60 e61 => ?_)
        refine jrun_i (pc := 41) (jRunV hX s_X7_127 (ci := 7) (T := TX7) (N := 20) (As := [ji (-52 : Int32)]) (rest := []) rfl (by decide) (C_X7_refuses Y hz0 t0 ht0 (-52 : Int32) I0 L0 y59 I60 e61) ht0 rfl rfl ⟨by decide, by decide⟩ ⟨Nat.le_of_ble_eq_true rfl, Nat.le_of_ble_eq_true rfl⟩ (Nat.le_of_ble_eq_true rfl) dX7_level_41) ?_
        exact J_iret (pc := 44) hX (hQ _) dX7_level_44
theorem C_X7_level (Y : jY) (hz0 : Y.zf = false) (t0 : Nat) (ht0 : shC t0 = 8) (p0 : Int32) (p1 : Int32) (p2 : Int32) (I0 : jI) (L0 : jL) (r : Int32) (I1 : jI) (h : X7_level t0 p0 p1 p2 I0 = some (r, I1)) : jMet Y yX7_level cX7_level 6 (some .int) 7 218 0 0 [jr t0, ji p0, ji p1, ji p2] NC shC rfC I0 L0 (some (ji r)) NC shC rfC I1 L0 :=
  jmet_of _ _ h (fun Z r => jQ Y Z 0 0 (some (ji r.1)) NC shC rfC r.2 L0) (fun _ => rfl) (by decide) (Nat.le_of_ble_eq_true rfl) (fun Z hX => W_X7_level hz0 t0 ht0 p0 p1 p2 I0 L0 hX (fun _ => rfl))
def X7_drop_F1 (t0 : Nat) (k6 : jI → Option (Int32 × jI)) (g13 : Int32 → jI → Option (Int32 × jI)) : Int32 → jI → Option (Int32 × jI) := fun (v11 : Int32) (I12 : jI) =>
if (8 : Int32) ≤ v11 then (
k6 I12)
else (
if jin v11 8 then (
if jin (688 : Int32) 784 then (
jlet (fun (v17 : Int32) =>
if jin v11 8 then jlet (jup I12 (rfC t0 11) (v11).toNatClampNeg v17) (fun (I20 : jI) =>
g13 (v11 + (1 : Int32)) I20) else none) (fun (k18 : Int32 → Option (Int32 × jI)) =>
if (I12 (rfC t0 11) (v11).toNatClampNeg) = ((10 : Int32) + (I12 (rfC t0 0) ((688 : Int32)).toNatClampNeg)) then (
k18 (-1 : Int32))
else (
if jin v11 8 then (
k18 (I12 (rfC t0 11) (v11).toNatClampNeg)) else none))) else none) else none)
def X7_drop (t0 : Nat) (I0 : jI) : Option (Int32 × jI) :=
if jin (688 : Int32) 784 then (
if (I0 (rfC t0 0) ((688 : Int32)).toNatClampNeg) = 0 then (
jb2 (X7_refuses t0 (-55 : Int32) I0) (fun (y23 : Int32) (I24 : jI) =>
some (y23, I24)))
else (
(X7_sweepsOut t0 I0).bind (fun (I3 : jI) =>
jlet (fun (I5 : jI) =>
if jin (688 : Int32) 784 then (
if jin (688 : Int32) 784 then jlet (jup I5 (rfC t0 0) ((688 : Int32)).toNatClampNeg ((I5 (rfC t0 0) ((688 : Int32)).toNatClampNeg) - (1 : Int32))) (fun (I9 : jI) =>
if jin (688 : Int32) 784 then (
some ((I9 (rfC t0 0) ((688 : Int32)).toNatClampNeg), I9)) else none) else none) else none) (fun (k6 : jI → Option (Int32 × jI)) =>
jfx (X7_drop_F1 t0 k6) (fun _ _ => none) 1000 (0 : Int32) I3)))) else none
set_option maxRecDepth 20000 in
set_option maxHeartbeats 4000000 in
theorem W_X7_drop {Y : jY} {Z : jZ} {Qf : Int32 × jI → State → Prop} (hz0 : Y.zf = false) (t0 : Nat) (ht0 : shC t0 = 8) (I0 : jI) (L0 : jL) (hX : jOK Y Z RX7 cX7_drop 2 "drop" (some .int) 7 218 0 0) (hQ : ∀ r : Int32 × jI, Qf r = jQ Y Z 0 0 (some (ji r.1)) NC shC rfC r.2 L0) : J Y Z 2 Qf (X7_drop t0 I0) 0 [(0, jr t0)] [] 0 0 NC shC rfC I0 L0 := by
  unfold X7_drop
  refine J_aload_n (pc := 0) hX 0 rfl dX7_drop_0 ?_
  refine g_X7_7 (pc := 1) hX ht0 dX7_drop_1 ?_
  refine J_sipush (pc := 4) hX (v := (688 : Int32)) (by decide) dX7_drop_4 ?_
  refine J_iald (pc := 7) hX (N := 784) (fs_7_0 t0 ht0) (by decide) dX7_drop_7 (fun h1 => ?_)
  refine J_if_ne (pc := 8) hX (tgt := 18) (by decide) dX7_drop_8 (fun h2 => ?_) (fun h2 => ?_)
  · refine J_aload_n (pc := 18) hX 0 rfl dX7_drop_18 ?_
    refine J_call1 (fun I3 e4 => ?_)
    refine jrun_v (pc := 19) (jRunV hX s_X7_130 (ci := 7) (T := TX7) (N := 20) (As := []) (rest := []) rfl (by decide) (C_X7_sweepsOut Y hz0 t0 ht0 I0 L0 I3 e4) ht0 rfl rfl ⟨by decide, by decide⟩ ⟨Nat.le_of_ble_eq_true rfl, Nat.le_of_ble_eq_true rfl⟩ (Nat.le_of_ble_eq_true rfl) dX7_drop_19) ?_
    refine J_iconst (pc := 22) hX (v := (0 : Int32)) (by decide) dX7_drop_22 ?_
    refine J_istore_n (pc := 23) hX (lo' := [(1, ji (0 : Int32)), (0, jr t0)]) (by decide) rfl dX7_drop_23 ?_
    refine J_join (fun (k6 : jI → Option (Int32 × jI)) => ∀ (I5 : jI), J Y Z 2 Qf (k6 I5) 72 [(0, jr t0)] [] 0 0 NC shC rfC I5 L0) ?_ (fun k6 hk6 => ?_)
    · intro I5
      try dsimp only
      refine J_aload_n (pc := 72) hX 0 rfl dX7_drop_72 ?_
      refine g_X7_7 (pc := 73) hX ht0 dX7_drop_73 ?_
      refine J_sipush (pc := 76) hX (v := (688 : Int32)) (by decide) dX7_drop_76 ?_
      refine J_dup2 (pc := 79) hX rfl rfl dX7_drop_79 ?_
      refine J_iald (pc := 80) hX (N := 784) (fs_7_0 t0 ht0) (by decide) dX7_drop_80 (fun h7 => ?_)
      refine J_iconst (pc := 81) hX (v := (1 : Int32)) (by decide) dX7_drop_81 ?_
      refine J_isub (pc := 82) hX dX7_drop_82 ?_
      refine J_iast (pc := 83) hX (N := 784) (fs_7_0 t0 ht0) (by decide) dX7_drop_83 (fun h8 I9 => ?_)
      refine J_aload_n (pc := 84) hX 0 rfl dX7_drop_84 ?_
      refine g_X7_7 (pc := 85) hX ht0 dX7_drop_85 ?_
      refine J_sipush (pc := 88) hX (v := (688 : Int32)) (by decide) dX7_drop_88 ?_
      refine J_iald (pc := 91) hX (N := 784) (fs_7_0 t0 ht0) (by decide) dX7_drop_91 (fun h10 => ?_)
      exact J_iret (pc := 92) hX (hQ _) dX7_drop_92
    have lhg13 : ∀ mq : Nat, ∀ (v11 : Int32) (I12 : jI), J Y Z 2 Qf (jfx (X7_drop_F1 t0 k6) (fun _ _ => none) mq v11 I12) 24 [(0, jr t0), (1, ji v11)] [] 0 0 NC shC rfC I12 L0 := by
      intro mq
      refine jfx_J (fun (_ : Nat) (g13 : Int32 → jI → Option (Int32 × jI)) => ∀ (v11 : Int32) (I12 : jI), J Y Z 2 Qf (g13 v11 I12) 24 [(0, jr t0), (1, ji v11)] [] 0 0 NC shC rfC I12 L0) ?_ (fun _ g13 hg13 => ?_) mq
      · intro v11 I12
        exact J_none
      intro v11 I12
      unfold X7_drop_F1
      try dsimp only
      refine J_iload_n (pc := 24) hX 1 rfl dX7_drop_24 ?_
      refine J_bipush (pc := 25) hX (v := (8 : Int32)) (by decide) dX7_drop_25 ?_
      refine J_icmp_ge (pc := 27) hX (tgt := 72) (by decide) dX7_drop_27 (fun h14 => ?_) (fun h14 => ?_)
      · refine J_sub [0] rfl ?_
        exact hk6 I12
      · refine J_aload_n (pc := 30) hX 0 rfl dX7_drop_30 ?_
        refine g_X7_25 (pc := 31) hX ht0 dX7_drop_31 ?_
        refine J_iload_n (pc := 34) hX 1 rfl dX7_drop_34 ?_
        refine J_aload_n (pc := 35) hX 0 rfl dX7_drop_35 ?_
        refine g_X7_25 (pc := 36) hX ht0 dX7_drop_36 ?_
        refine J_iload_n (pc := 39) hX 1 rfl dX7_drop_39 ?_
        refine J_iald (pc := 40) hX (N := 8) (fs_7_11 t0 ht0) (by decide) dX7_drop_40 (fun h15 => ?_)
        refine J_bipush (pc := 41) hX (v := (10 : Int32)) (by decide) dX7_drop_41 ?_
        refine J_aload_n (pc := 43) hX 0 rfl dX7_drop_43 ?_
        refine g_X7_7 (pc := 44) hX ht0 dX7_drop_44 ?_
        refine J_sipush (pc := 47) hX (v := (688 : Int32)) (by decide) dX7_drop_47 ?_
        refine J_iald (pc := 50) hX (N := 784) (fs_7_0 t0 ht0) (by decide) dX7_drop_50 (fun h16 => ?_)
        refine J_iadd (pc := 51) hX dX7_drop_51 ?_
        refine J_join (fun (k18 : Int32 → Option (Int32 × jI)) => ∀ (v17 : Int32), J Y Z 2 Qf (k18 v17) 65 [(0, jr t0), (1, ji v11)] [ji v17, ji v11, jr (rfC t0 11)] 0 0 NC shC rfC I12 L0) ?_ (fun k18 hk18 => ?_)
        · intro v17
          try dsimp only
          refine J_iast (pc := 65) hX (N := 8) (fs_7_11 t0 ht0) (by decide) dX7_drop_65 (fun h19 I20 => ?_)
          refine J_iinc (pc := 66) hX (v := (v11 + (1 : Int32))) (lo' := [(1, ji (v11 + (1 : Int32))), (0, jr t0)]) 1 rfl (by rfl) (by decide) rfl dX7_drop_66 ?_
          refine J_goto (pc := 69) hX (tgt := 24) (by decide) dX7_drop_69 ?_
          refine J_sub [1, 0] rfl ?_
          exact hg13 (v11 + (1 : Int32)) I20
        refine J_icmp_ne (pc := 52) hX (tgt := 59) (by decide) dX7_drop_52 (fun h21 => ?_) (fun h21 => ?_)
        · refine J_aload_n (pc := 59) hX 0 rfl dX7_drop_59 ?_
          refine g_X7_25 (pc := 60) hX ht0 dX7_drop_60 ?_
          refine J_iload_n (pc := 63) hX 1 rfl dX7_drop_63 ?_
          refine J_iald (pc := 64) hX (N := 8) (fs_7_11 t0 ht0) (by decide) dX7_drop_64 (fun h22 => ?_)
          exact hk18 (I12 (rfC t0 11) (v11).toNatClampNeg)
        · refine J_iconst (pc := 55) hX (v := (-1 : Int32)) (by decide) dX7_drop_55 ?_
          refine J_goto (pc := 56) hX (tgt := 65) (by decide) dX7_drop_56 ?_
          exact hk18 (-1 : Int32)
    refine J_sub [1, 0] rfl ?_
    exact lhg13 1000 (0 : Int32) I3
  · refine J_aload_n (pc := 11) hX 0 rfl dX7_drop_11 ?_
    refine J_bipush (pc := 12) hX (v := (-55 : Int32)) (by decide) dX7_drop_12 ?_
    refine J_call2 (fun y23 I24 e25 => ?_)
    refine jrun_i (pc := 14) (jRunV hX s_X7_127 (ci := 7) (T := TX7) (N := 20) (As := [ji (-55 : Int32)]) (rest := []) rfl (by decide) (C_X7_refuses Y hz0 t0 ht0 (-55 : Int32) I0 L0 y23 I24 e25) ht0 rfl rfl ⟨by decide, by decide⟩ ⟨Nat.le_of_ble_eq_true rfl, Nat.le_of_ble_eq_true rfl⟩ (Nat.le_of_ble_eq_true rfl) dX7_drop_14) ?_
    exact J_iret (pc := 17) hX (hQ _) dX7_drop_17
theorem C_X7_drop (Y : jY) (hz0 : Y.zf = false) (t0 : Nat) (ht0 : shC t0 = 8) (I0 : jI) (L0 : jL) (r : Int32) (I1 : jI) (h : X7_drop t0 I0 = some (r, I1)) : jMet Y yX7_drop cX7_drop 2 (some .int) 7 218 0 0 [jr t0] NC shC rfC I0 L0 (some (ji r)) NC shC rfC I1 L0 :=
  jmet_of _ _ h (fun Z r => jQ Y Z 0 0 (some (ji r.1)) NC shC rfC r.2 L0) (fun _ => rfl) (by decide) (Nat.le_of_ble_eq_true rfl) (fun Z hX => W_X7_drop hz0 t0 ht0 I0 L0 hX (fun _ => rfl))
def X7_mode (t0 : Nat) (p0 : Int32) (p1 : Int32) (I0 : jI) : Option (Int32 × jI) :=
(X7_isIn ((p0).toInt64) (0 : Int64) (1 : Int64)).bind (fun (y1 : Int32) =>
if y1 = 0 then (
jb2 (X7_refuses t0 (-52 : Int32) I0) (fun (y4 : Int32) (I5 : jI) =>
some (y4, I5)))
else (
jlet (if p0 = 0 then (2 : Int64) else (1 : Int64)) (fun (y8 : Int64) =>
(X7_isIn ((p1).toInt64) (0 : Int64) y8).bind (fun (y9 : Int32) =>
if y9 = 0 then (
jb2 (X7_refuses t0 (-52 : Int32) I0) (fun (y18 : Int32) (I19 : jI) =>
some (y18, I19)))
else (
(X7_sweepsOut t0 I0).bind (fun (I12 : jI) =>
if jin ((689 : Int32) + p0) 784 then (
jlet ((I12 (rfC t0 0) (((689 : Int32) + p0)).toNatClampNeg)) (fun (y15 : Int32) =>
if jin ((689 : Int32) + p0) 784 then jlet (jup I12 (rfC t0 0) (((689 : Int32) + p0)).toNatClampNeg p1) (fun (I17 : jI) =>
some (y15, I17)) else none)) else none))))))
set_option maxRecDepth 20000 in
set_option maxHeartbeats 4000000 in
theorem W_X7_mode {Y : jY} {Z : jZ} {Qf : Int32 × jI → State → Prop} (hz0 : Y.zf = false) (t0 : Nat) (ht0 : shC t0 = 8) (p0 : Int32) (p1 : Int32) (I0 : jI) (L0 : jL) (hX : jOK Y Z RX7 cX7_mode 4 "mode" (some .int) 7 218 0 0) (hQ : ∀ r : Int32 × jI, Qf r = jQ Y Z 0 0 (some (ji r.1)) NC shC rfC r.2 L0) : J Y Z 4 Qf (X7_mode t0 p0 p1 I0) 0 [(0, jr t0), (1, ji p0), (2, ji p1)] [] 0 0 NC shC rfC I0 L0 := by
  unfold X7_mode
  refine J_iload_n (pc := 0) hX 1 rfl dX7_mode_0 ?_
  refine J_i2l (pc := 1) hX dX7_mode_1 ?_
  refine J_lconst (pc := 2) hX (v := (0 : Int64)) (by decide) dX7_mode_2 ?_
  refine J_lconst (pc := 3) hX (v := (1 : Int64)) (by decide) dX7_mode_3 ?_
  refine J_call1 (fun y1 e2 => ?_)
  refine jrun_i (pc := 4) (jRunS hX s_X7_47 (As := [jl ((p0).toInt64), jl (0 : Int64), jl (1 : Int64)]) (rest := []) (C_X7_isIn Y hz0 ((p0).toInt64) (0 : Int64) (1 : Int64) I0 L0 y1 e2) rfl rfl ⟨by decide, by decide⟩ ⟨Nat.le_of_ble_eq_true rfl, Nat.le_of_ble_eq_true rfl⟩ (Nat.le_of_ble_eq_true rfl) dX7_mode_4) ?_
  refine J_if_eq (pc := 7) hX (tgt := 30) (by decide) dX7_mode_7 (fun h3 => ?_) (fun h3 => ?_)
  · refine J_aload_n (pc := 30) hX 0 rfl dX7_mode_30 ?_
    refine J_bipush (pc := 31) hX (v := (-52 : Int32)) (by decide) dX7_mode_31 ?_
    refine J_call2 (fun y4 I5 e6 => ?_)
    refine jrun_i (pc := 33) (jRunV hX s_X7_127 (ci := 7) (T := TX7) (N := 20) (As := [ji (-52 : Int32)]) (rest := []) rfl (by decide) (C_X7_refuses Y hz0 t0 ht0 (-52 : Int32) I0 L0 y4 I5 e6) ht0 rfl rfl ⟨by decide, by decide⟩ ⟨Nat.le_of_ble_eq_true rfl, Nat.le_of_ble_eq_true rfl⟩ (Nat.le_of_ble_eq_true rfl) dX7_mode_33) ?_
    exact J_iret (pc := 36) hX (hQ _) dX7_mode_36
  · refine J_iload_n (pc := 10) hX 2 rfl dX7_mode_10 ?_
    refine J_i2l (pc := 11) hX dX7_mode_11 ?_
    refine J_lconst (pc := 12) hX (v := (0 : Int64)) (by decide) dX7_mode_12 ?_
    refine J_iload_n (pc := 13) hX 1 rfl dX7_mode_13 ?_
    refine J_vjoin (fun kq (y8 : Int64) => J Y Z 4 Qf (kq) 24 [(0, jr t0), (1, ji p0), (2, ji p1)] [jl y8, jl (0 : Int64), jl ((p1).toInt64)] 0 0 NC shC rfC I0 L0) (fun y8 => ?_) (fun hj => ?_)
    · try dsimp only
      refine J_call1 (fun y9 e10 => ?_)
      refine jrun_i (pc := 24) (jRunS hX s_X7_47 (As := [jl ((p1).toInt64), jl (0 : Int64), jl y8]) (rest := []) (C_X7_isIn Y hz0 ((p1).toInt64) (0 : Int64) y8 I0 L0 y9 e10) rfl rfl ⟨by decide, by decide⟩ ⟨Nat.le_of_ble_eq_true rfl, Nat.le_of_ble_eq_true rfl⟩ (Nat.le_of_ble_eq_true rfl) dX7_mode_24) ?_
      refine J_if_ne (pc := 27) hX (tgt := 37) (by decide) dX7_mode_27 (fun h11 => ?_) (fun h11 => ?_)
      · refine J_aload_n (pc := 37) hX 0 rfl dX7_mode_37 ?_
        refine J_call1 (fun I12 e13 => ?_)
        refine jrun_v (pc := 38) (jRunV hX s_X7_130 (ci := 7) (T := TX7) (N := 20) (As := []) (rest := []) rfl (by decide) (C_X7_sweepsOut Y hz0 t0 ht0 I0 L0 I12 e13) ht0 rfl rfl ⟨by decide, by decide⟩ ⟨Nat.le_of_ble_eq_true rfl, Nat.le_of_ble_eq_true rfl⟩ (Nat.le_of_ble_eq_true rfl) dX7_mode_38) ?_
        refine J_aload_n (pc := 41) hX 0 rfl dX7_mode_41 ?_
        refine g_X7_7 (pc := 42) hX ht0 dX7_mode_42 ?_
        refine J_sipush (pc := 45) hX (v := (689 : Int32)) (by decide) dX7_mode_45 ?_
        refine J_iload_n (pc := 48) hX 1 rfl dX7_mode_48 ?_
        refine J_iadd (pc := 49) hX dX7_mode_49 ?_
        refine J_iald (pc := 50) hX (N := 784) (fs_7_0 t0 ht0) (by decide) dX7_mode_50 (fun h14 => ?_)
        refine J_leti (fun y15 => ?_)
        refine J_istore_n (pc := 51) hX (lo' := [(3, ji y15), (0, jr t0), (1, ji p0), (2, ji p1)]) (by decide) rfl dX7_mode_51 ?_
        refine J_aload_n (pc := 52) hX 1 rfl dX7_mode_52 ?_
        refine g_X7_7 (pc := 53) hX ht0 dX7_mode_53 ?_
        refine J_sipush (pc := 56) hX (v := (689 : Int32)) (by decide) dX7_mode_56 ?_
        refine J_iload_n (pc := 59) hX 2 rfl dX7_mode_59 ?_
        refine J_iadd (pc := 60) hX dX7_mode_60 ?_
        refine J_iload_n (pc := 61) hX 3 rfl dX7_mode_61 ?_
        refine J_iast (pc := 62) hX (N := 784) (fs_7_0 t0 ht0) (by decide) dX7_mode_62 (fun h16 I17 => ?_)
        refine J_iload_n (pc := 63) hX 0 rfl dX7_mode_63 ?_
        exact J_iret (pc := 64) hX (hQ _) dX7_mode_64
      · refine J_aload_n (pc := 30) hX 0 rfl dX7_mode_30 ?_
        refine J_bipush (pc := 31) hX (v := (-52 : Int32)) (by decide) dX7_mode_31 ?_
        refine J_call2 (fun y18 I19 e20 => ?_)
        refine jrun_i (pc := 33) (jRunV hX s_X7_127 (ci := 7) (T := TX7) (N := 20) (As := [ji (-52 : Int32)]) (rest := []) rfl (by decide) (C_X7_refuses Y hz0 t0 ht0 (-52 : Int32) I0 L0 y18 I19 e20) ht0 rfl rfl ⟨by decide, by decide⟩ ⟨Nat.le_of_ble_eq_true rfl, Nat.le_of_ble_eq_true rfl⟩ (Nat.le_of_ble_eq_true rfl) dX7_mode_33) ?_
        exact J_iret (pc := 36) hX (hQ _) dX7_mode_36
    try dsimp only at hj
    refine J_if_neV (pc := 14) hX (tgt := 23) (by decide) dX7_mode_14 (fun h7 => ?_) (fun h7 => ?_)
    · refine J_lconst (pc := 23) hX (v := (1 : Int64)) (by decide) dX7_mode_23 ?_
      exact hj _
    · refine J_ldc2 (pc := 17) hX q_X7_133 dX7_mode_17 ?_
      refine J_goto (pc := 20) hX (tgt := 24) (by decide) dX7_mode_20 ?_
      exact hj _
theorem C_X7_mode (Y : jY) (hz0 : Y.zf = false) (t0 : Nat) (ht0 : shC t0 = 8) (p0 : Int32) (p1 : Int32) (I0 : jI) (L0 : jL) (r : Int32) (I1 : jI) (h : X7_mode t0 p0 p1 I0 = some (r, I1)) : jMet Y yX7_mode cX7_mode 4 (some .int) 7 218 0 0 [jr t0, ji p0, ji p1] NC shC rfC I0 L0 (some (ji r)) NC shC rfC I1 L0 :=
  jmet_of _ _ h (fun Z r => jQ Y Z 0 0 (some (ji r.1)) NC shC rfC r.2 L0) (fun _ => rfl) (by decide) (Nat.le_of_ble_eq_true rfl) (fun Z hX => W_X7_mode hz0 t0 ht0 p0 p1 I0 L0 hX (fun _ => rfl))
def X7_tell (t0 : Nat) (p0 : Int32) (p1 : Int32) (I0 : jI) : Option (Int32 × jI) :=
(X7_isIn ((p0).toInt64) (0 : Int64) (1 : Int64)).bind (fun (y1 : Int32) =>
if y1 = 0 then (
jb2 (X7_refuses t0 (-52 : Int32) I0) (fun (y4 : Int32) (I5 : jI) =>
some (y4, I5)))
else (
jlet (if p0 = 0 then (8 : Int64) else (999 : Int64)) (fun (y8 : Int64) =>
(X7_isIn ((p1).toInt64) (0 : Int64) y8).bind (fun (y9 : Int32) =>
if y9 = 0 then (
jb2 (X7_refuses t0 (-52 : Int32) I0) (fun (y16 : Int32) (I17 : jI) =>
some (y16, I17)))
else (
if jin ((691 : Int32) + p0) 784 then (
jlet ((I0 (rfC t0 0) (((691 : Int32) + p0)).toNatClampNeg)) (fun (y13 : Int32) =>
if jin ((691 : Int32) + p0) 784 then jlet (jup I0 (rfC t0 0) (((691 : Int32) + p0)).toNatClampNeg p1) (fun (I15 : jI) =>
some (y13, I15)) else none)) else none)))))
set_option maxRecDepth 20000 in
set_option maxHeartbeats 4000000 in
theorem W_X7_tell {Y : jY} {Z : jZ} {Qf : Int32 × jI → State → Prop} (hz0 : Y.zf = false) (t0 : Nat) (ht0 : shC t0 = 8) (p0 : Int32) (p1 : Int32) (I0 : jI) (L0 : jL) (hX : jOK Y Z RX7 cX7_tell 4 "tell" (some .int) 2 105 0 0) (hQ : ∀ r : Int32 × jI, Qf r = jQ Y Z 0 0 (some (ji r.1)) NC shC rfC r.2 L0) : J Y Z 4 Qf (X7_tell t0 p0 p1 I0) 0 [(0, jr t0), (1, ji p0), (2, ji p1)] [] 0 0 NC shC rfC I0 L0 := by
  unfold X7_tell
  refine J_iload_n (pc := 0) hX 1 rfl dX7_tell_0 ?_
  refine J_i2l (pc := 1) hX dX7_tell_1 ?_
  refine J_lconst (pc := 2) hX (v := (0 : Int64)) (by decide) dX7_tell_2 ?_
  refine J_lconst (pc := 3) hX (v := (1 : Int64)) (by decide) dX7_tell_3 ?_
  refine J_call1 (fun y1 e2 => ?_)
  refine jrun_i (pc := 4) (jRunS hX s_X7_47 (As := [jl ((p0).toInt64), jl (0 : Int64), jl (1 : Int64)]) (rest := []) (C_X7_isIn Y hz0 ((p0).toInt64) (0 : Int64) (1 : Int64) I0 L0 y1 e2) rfl rfl ⟨by decide, by decide⟩ ⟨Nat.le_of_ble_eq_true rfl, Nat.le_of_ble_eq_true rfl⟩ (Nat.le_of_ble_eq_true rfl) dX7_tell_4) ?_
  refine J_if_eq (pc := 7) hX (tgt := 32) (by decide) dX7_tell_7 (fun h3 => ?_) (fun h3 => ?_)
  · refine J_aload_n (pc := 32) hX 0 rfl dX7_tell_32 ?_
    refine J_bipush (pc := 33) hX (v := (-52 : Int32)) (by decide) dX7_tell_33 ?_
    refine J_call2 (fun y4 I5 e6 => ?_)
    refine jrun_i (pc := 35) (jRunV hX s_X7_127 (ci := 7) (T := TX7) (N := 20) (As := [ji (-52 : Int32)]) (rest := []) rfl (by decide) (C_X7_refuses Y hz0 t0 ht0 (-52 : Int32) I0 L0 y4 I5 e6) ht0 rfl rfl ⟨by decide, by decide⟩ ⟨Nat.le_of_ble_eq_true rfl, Nat.le_of_ble_eq_true rfl⟩ (Nat.le_of_ble_eq_true rfl) dX7_tell_35) ?_
    exact J_iret (pc := 38) hX (hQ _) dX7_tell_38
  · refine J_iload_n (pc := 10) hX 2 rfl dX7_tell_10 ?_
    refine J_i2l (pc := 11) hX dX7_tell_11 ?_
    refine J_lconst (pc := 12) hX (v := (0 : Int64)) (by decide) dX7_tell_12 ?_
    refine J_iload_n (pc := 13) hX 1 rfl dX7_tell_13 ?_
    refine J_vjoin (fun kq (y8 : Int64) => J Y Z 4 Qf (kq) 26 [(0, jr t0), (1, ji p0), (2, ji p1)] [jl y8, jl (0 : Int64), jl ((p1).toInt64)] 0 0 NC shC rfC I0 L0) (fun y8 => ?_) (fun hj => ?_)
    · try dsimp only
      refine J_call1 (fun y9 e10 => ?_)
      refine jrun_i (pc := 26) (jRunS hX s_X7_47 (As := [jl ((p1).toInt64), jl (0 : Int64), jl y8]) (rest := []) (C_X7_isIn Y hz0 ((p1).toInt64) (0 : Int64) y8 I0 L0 y9 e10) rfl rfl ⟨by decide, by decide⟩ ⟨Nat.le_of_ble_eq_true rfl, Nat.le_of_ble_eq_true rfl⟩ (Nat.le_of_ble_eq_true rfl) dX7_tell_26) ?_
      refine J_if_ne (pc := 29) hX (tgt := 39) (by decide) dX7_tell_29 (fun h11 => ?_) (fun h11 => ?_)
      · refine J_aload_n (pc := 39) hX 0 rfl dX7_tell_39 ?_
        refine g_X7_7 (pc := 40) hX ht0 dX7_tell_40 ?_
        refine J_sipush (pc := 43) hX (v := (691 : Int32)) (by decide) dX7_tell_43 ?_
        refine J_iload_n (pc := 46) hX 1 rfl dX7_tell_46 ?_
        refine J_iadd (pc := 47) hX dX7_tell_47 ?_
        refine J_iald (pc := 48) hX (N := 784) (fs_7_0 t0 ht0) (by decide) dX7_tell_48 (fun h12 => ?_)
        refine J_leti (fun y13 => ?_)
        refine J_istore_n (pc := 49) hX (lo' := [(3, ji y13), (0, jr t0), (1, ji p0), (2, ji p1)]) (by decide) rfl dX7_tell_49 ?_
        refine J_aload_n (pc := 50) hX 1 rfl dX7_tell_50 ?_
        refine g_X7_7 (pc := 51) hX ht0 dX7_tell_51 ?_
        refine J_sipush (pc := 54) hX (v := (691 : Int32)) (by decide) dX7_tell_54 ?_
        refine J_iload_n (pc := 57) hX 2 rfl dX7_tell_57 ?_
        refine J_iadd (pc := 58) hX dX7_tell_58 ?_
        refine J_iload_n (pc := 59) hX 3 rfl dX7_tell_59 ?_
        refine J_iast (pc := 60) hX (N := 784) (fs_7_0 t0 ht0) (by decide) dX7_tell_60 (fun h14 I15 => ?_)
        refine J_iload_n (pc := 61) hX 0 rfl dX7_tell_61 ?_
        exact J_iret (pc := 62) hX (hQ _) dX7_tell_62
      · refine J_aload_n (pc := 32) hX 0 rfl dX7_tell_32 ?_
        refine J_bipush (pc := 33) hX (v := (-52 : Int32)) (by decide) dX7_tell_33 ?_
        refine J_call2 (fun y16 I17 e18 => ?_)
        refine jrun_i (pc := 35) (jRunV hX s_X7_127 (ci := 7) (T := TX7) (N := 20) (As := [ji (-52 : Int32)]) (rest := []) rfl (by decide) (C_X7_refuses Y hz0 t0 ht0 (-52 : Int32) I0 L0 y16 I17 e18) ht0 rfl rfl ⟨by decide, by decide⟩ ⟨Nat.le_of_ble_eq_true rfl, Nat.le_of_ble_eq_true rfl⟩ (Nat.le_of_ble_eq_true rfl) dX7_tell_35) ?_
        exact J_iret (pc := 38) hX (hQ _) dX7_tell_38
    try dsimp only at hj
    refine J_if_neV (pc := 14) hX (tgt := 23) (by decide) dX7_tell_14 (fun h7 => ?_) (fun h7 => ?_)
    · refine J_ldc2 (pc := 23) hX q_X7_135 dX7_tell_23 ?_
      exact hj _
    · refine J_ldc2 (pc := 17) hX q_X7_125 dX7_tell_17 ?_
      refine J_goto (pc := 20) hX (tgt := 26) (by decide) dX7_tell_20 ?_
      exact hj _
theorem C_X7_tell (Y : jY) (hz0 : Y.zf = false) (t0 : Nat) (ht0 : shC t0 = 8) (p0 : Int32) (p1 : Int32) (I0 : jI) (L0 : jL) (r : Int32) (I1 : jI) (h : X7_tell t0 p0 p1 I0 = some (r, I1)) : jMet Y yX7_tell cX7_tell 4 (some .int) 2 105 0 0 [jr t0, ji p0, ji p1] NC shC rfC I0 L0 (some (ji r)) NC shC rfC I1 L0 :=
  jmet_of _ _ h (fun Z r => jQ Y Z 0 0 (some (ji r.1)) NC shC rfC r.2 L0) (fun _ => rfl) (by decide) (Nat.le_of_ble_eq_true rfl) (fun Z hX => W_X7_tell hz0 t0 ht0 p0 p1 I0 L0 hX (fun _ => rfl))
def X7_read (t0 : Nat) (p0 : Int32) (I0 : jI) : Option (Int32 × jI) :=
(X7_isPage ((p0).toInt64)).bind (fun (y1 : Int32) =>
if y1 = 0 then (
jb2 (X7_refuses t0 (-52 : Int32) I0) (fun (y4 : Int32) (I5 : jI) =>
some (y4, I5)))
else (
jb2 (X7_reads t0 p0 I0) (fun (y7 : Int32) (I8 : jI) =>
some (y7, I8))))
set_option maxRecDepth 20000 in
set_option maxHeartbeats 4000000 in
theorem W_X7_read {Y : jY} {Z : jZ} {Qf : Int32 × jI → State → Prop} (hz0 : Y.zf = false) (t0 : Nat) (ht0 : shC t0 = 8) (p0 : Int32) (I0 : jI) (L0 : jL) (hX : jOK Y Z RX7 cX7_read 2 "read" (some .int) 48 2247 0 0) (hQ : ∀ r : Int32 × jI, Qf r = jQ Y Z 0 0 (some (ji r.1)) NC shC rfC r.2 L0) : J Y Z 2 Qf (X7_read t0 p0 I0) 0 [(0, jr t0), (1, ji p0)] [] 0 0 NC shC rfC I0 L0 := by
  unfold X7_read
  refine J_iload_n (pc := 0) hX 1 rfl dX7_read_0 ?_
  refine J_i2l (pc := 1) hX dX7_read_1 ?_
  refine J_call1 (fun y1 e2 => ?_)
  refine jrun_i (pc := 2) (jRunS hX s_X7_137 (As := [jl ((p0).toInt64)]) (rest := []) (C_X7_isPage Y hz0 ((p0).toInt64) I0 L0 y1 e2) rfl rfl ⟨by decide, by decide⟩ ⟨Nat.le_of_ble_eq_true rfl, Nat.le_of_ble_eq_true rfl⟩ (Nat.le_of_ble_eq_true rfl) dX7_read_2) ?_
  refine J_if_eq (pc := 5) hX (tgt := 16) (by decide) dX7_read_5 (fun h3 => ?_) (fun h3 => ?_)
  · refine J_aload_n (pc := 16) hX 0 rfl dX7_read_16 ?_
    refine J_bipush (pc := 17) hX (v := (-52 : Int32)) (by decide) dX7_read_17 ?_
    refine J_call2 (fun y4 I5 e6 => ?_)
    refine jrun_i (pc := 19) (jRunV hX s_X7_127 (ci := 7) (T := TX7) (N := 20) (As := [ji (-52 : Int32)]) (rest := []) rfl (by decide) (C_X7_refuses Y hz0 t0 ht0 (-52 : Int32) I0 L0 y4 I5 e6) ht0 rfl rfl ⟨by decide, by decide⟩ ⟨Nat.le_of_ble_eq_true rfl, Nat.le_of_ble_eq_true rfl⟩ (Nat.le_of_ble_eq_true rfl) dX7_read_19) ?_
    exact J_iret (pc := 22) hX (hQ _) dX7_read_22
  · refine J_aload_n (pc := 8) hX 0 rfl dX7_read_8 ?_
    refine J_iload_n (pc := 9) hX 1 rfl dX7_read_9 ?_
    refine J_call2 (fun y7 I8 e9 => ?_)
    refine jrun_i (pc := 10) (jRunV hX s_X7_141 (ci := 7) (T := TX7) (N := 20) (As := [ji p0]) (rest := []) rfl (by decide) (C_X7_reads Y hz0 t0 ht0 p0 I0 L0 y7 I8 e9) ht0 rfl rfl ⟨by decide, by decide⟩ ⟨Nat.le_of_ble_eq_true rfl, Nat.le_of_ble_eq_true rfl⟩ (Nat.le_of_ble_eq_true rfl) dX7_read_10) ?_
    refine J_goto (pc := 13) hX (tgt := 22) (by decide) dX7_read_13 ?_
    exact J_iret (pc := 22) hX (hQ _) dX7_read_22
theorem C_X7_read (Y : jY) (hz0 : Y.zf = false) (t0 : Nat) (ht0 : shC t0 = 8) (p0 : Int32) (I0 : jI) (L0 : jL) (r : Int32) (I1 : jI) (h : X7_read t0 p0 I0 = some (r, I1)) : jMet Y yX7_read cX7_read 2 (some .int) 48 2247 0 0 [jr t0, ji p0] NC shC rfC I0 L0 (some (ji r)) NC shC rfC I1 L0 :=
  jmet_of _ _ h (fun Z r => jQ Y Z 0 0 (some (ji r.1)) NC shC rfC r.2 L0) (fun _ => rfl) (by decide) (Nat.le_of_ble_eq_true rfl) (fun Z hX => W_X7_read hz0 t0 ht0 p0 I0 L0 hX (fun _ => rfl))
def X7_write (t0 : Nat) (p0 : Int32) (p1 : Int32) (I0 : jI) : Option (Int32 × jI) :=
(X7_isPage ((p0).toInt64)).bind (fun (y1 : Int32) =>
if y1 = 0 then (
jb2 (X7_refuses t0 (-52 : Int32) I0) (fun (y4 : Int32) (I5 : jI) =>
some (y4, I5)))
else (
jb2 (X7_writes t0 p0 p1 I0) (fun (y7 : Int32) (I8 : jI) =>
some (y7, I8))))
set_option maxRecDepth 20000 in
set_option maxHeartbeats 4000000 in
theorem W_X7_write {Y : jY} {Z : jZ} {Qf : Int32 × jI → State → Prop} (hz0 : Y.zf = false) (t0 : Nat) (ht0 : shC t0 = 8) (p0 : Int32) (p1 : Int32) (I0 : jI) (L0 : jL) (hX : jOK Y Z RX7 cX7_write 3 "write" (some .int) 48 2250 0 0) (hQ : ∀ r : Int32 × jI, Qf r = jQ Y Z 0 0 (some (ji r.1)) NC shC rfC r.2 L0) : J Y Z 3 Qf (X7_write t0 p0 p1 I0) 0 [(0, jr t0), (1, ji p0), (2, ji p1)] [] 0 0 NC shC rfC I0 L0 := by
  unfold X7_write
  refine J_iload_n (pc := 0) hX 1 rfl dX7_write_0 ?_
  refine J_i2l (pc := 1) hX dX7_write_1 ?_
  refine J_call1 (fun y1 e2 => ?_)
  refine jrun_i (pc := 2) (jRunS hX s_X7_137 (As := [jl ((p0).toInt64)]) (rest := []) (C_X7_isPage Y hz0 ((p0).toInt64) I0 L0 y1 e2) rfl rfl ⟨by decide, by decide⟩ ⟨Nat.le_of_ble_eq_true rfl, Nat.le_of_ble_eq_true rfl⟩ (Nat.le_of_ble_eq_true rfl) dX7_write_2) ?_
  refine J_if_eq (pc := 5) hX (tgt := 17) (by decide) dX7_write_5 (fun h3 => ?_) (fun h3 => ?_)
  · refine J_aload_n (pc := 17) hX 0 rfl dX7_write_17 ?_
    refine J_bipush (pc := 18) hX (v := (-52 : Int32)) (by decide) dX7_write_18 ?_
    refine J_call2 (fun y4 I5 e6 => ?_)
    refine jrun_i (pc := 20) (jRunV hX s_X7_127 (ci := 7) (T := TX7) (N := 20) (As := [ji (-52 : Int32)]) (rest := []) rfl (by decide) (C_X7_refuses Y hz0 t0 ht0 (-52 : Int32) I0 L0 y4 I5 e6) ht0 rfl rfl ⟨by decide, by decide⟩ ⟨Nat.le_of_ble_eq_true rfl, Nat.le_of_ble_eq_true rfl⟩ (Nat.le_of_ble_eq_true rfl) dX7_write_20) ?_
    exact J_iret (pc := 23) hX (hQ _) dX7_write_23
  · refine J_aload_n (pc := 8) hX 0 rfl dX7_write_8 ?_
    refine J_iload_n (pc := 9) hX 1 rfl dX7_write_9 ?_
    refine J_iload_n (pc := 10) hX 2 rfl dX7_write_10 ?_
    refine J_call2 (fun y7 I8 e9 => ?_)
    refine jrun_i (pc := 11) (jRunV hX s_X7_144 (ci := 7) (T := TX7) (N := 20) (As := [ji p0, ji p1]) (rest := []) rfl (by decide) (C_X7_writes Y hz0 t0 ht0 p0 p1 I0 L0 y7 I8 e9) ht0 rfl rfl ⟨by decide, by decide⟩ ⟨Nat.le_of_ble_eq_true rfl, Nat.le_of_ble_eq_true rfl⟩ (Nat.le_of_ble_eq_true rfl) dX7_write_11) ?_
    refine J_goto (pc := 14) hX (tgt := 23) (by decide) dX7_write_14 ?_
    exact J_iret (pc := 23) hX (hQ _) dX7_write_23
theorem C_X7_write (Y : jY) (hz0 : Y.zf = false) (t0 : Nat) (ht0 : shC t0 = 8) (p0 : Int32) (p1 : Int32) (I0 : jI) (L0 : jL) (r : Int32) (I1 : jI) (h : X7_write t0 p0 p1 I0 = some (r, I1)) : jMet Y yX7_write cX7_write 3 (some .int) 48 2250 0 0 [jr t0, ji p0, ji p1] NC shC rfC I0 L0 (some (ji r)) NC shC rfC I1 L0 :=
  jmet_of _ _ h (fun Z r => jQ Y Z 0 0 (some (ji r.1)) NC shC rfC r.2 L0) (fun _ => rfl) (by decide) (Nat.le_of_ble_eq_true rfl) (fun Z hX => W_X7_write hz0 t0 ht0 p0 p1 I0 L0 hX (fun _ => rfl))
def X7_sweep (t0 : Nat) (p0 : Int32) (I0 : jI) : Option (Int32 × jI) :=
(X7_isLevel t0 p0 I0).bind (fun (y1 : Int32) =>
if y1 = 0 then (
jb2 (X7_refuses t0 (-52 : Int32) I0) (fun (y4 : Int32) (I5 : jI) =>
some (y4, I5)))
else (
jb2 (X7_sweeps t0 (p0 - (1 : Int32)) I0) (fun (y7 : Int32) (I8 : jI) =>
some (y7, I8))))
set_option maxRecDepth 20000 in
set_option maxHeartbeats 4000000 in
theorem W_X7_sweep {Y : jY} {Z : jZ} {Qf : Int32 × jI → State → Prop} (hz0 : Y.zf = false) (t0 : Nat) (ht0 : shC t0 = 8) (p0 : Int32) (I0 : jI) (L0 : jL) (hX : jOK Y Z RX7 cX7_sweep 2 "sweep" (some .int) 6 196 0 0) (hQ : ∀ r : Int32 × jI, Qf r = jQ Y Z 0 0 (some (ji r.1)) NC shC rfC r.2 L0) : J Y Z 2 Qf (X7_sweep t0 p0 I0) 0 [(0, jr t0), (1, ji p0)] [] 0 0 NC shC rfC I0 L0 := by
  unfold X7_sweep
  refine J_aload_n (pc := 0) hX 0 rfl dX7_sweep_0 ?_
  refine J_iload_n (pc := 1) hX 1 rfl dX7_sweep_1 ?_
  refine J_call1 (fun y1 e2 => ?_)
  refine jrun_i (pc := 2) (jRunV hX s_X7_147 (ci := 7) (T := TX7) (N := 20) (As := [ji p0]) (rest := []) rfl (by decide) (C_X7_isLevel Y hz0 t0 ht0 p0 I0 L0 y1 e2) ht0 rfl rfl ⟨by decide, by decide⟩ ⟨Nat.le_of_ble_eq_true rfl, Nat.le_of_ble_eq_true rfl⟩ (Nat.le_of_ble_eq_true rfl) dX7_sweep_2) ?_
  refine J_if_eq (pc := 5) hX (tgt := 18) (by decide) dX7_sweep_5 (fun h3 => ?_) (fun h3 => ?_)
  · refine J_aload_n (pc := 18) hX 0 rfl dX7_sweep_18 ?_
    refine J_bipush (pc := 19) hX (v := (-52 : Int32)) (by decide) dX7_sweep_19 ?_
    refine J_call2 (fun y4 I5 e6 => ?_)
    refine jrun_i (pc := 21) (jRunV hX s_X7_127 (ci := 7) (T := TX7) (N := 20) (As := [ji (-52 : Int32)]) (rest := []) rfl (by decide) (C_X7_refuses Y hz0 t0 ht0 (-52 : Int32) I0 L0 y4 I5 e6) ht0 rfl rfl ⟨by decide, by decide⟩ ⟨Nat.le_of_ble_eq_true rfl, Nat.le_of_ble_eq_true rfl⟩ (Nat.le_of_ble_eq_true rfl) dX7_sweep_21) ?_
    exact J_iret (pc := 24) hX (hQ _) dX7_sweep_24
  · refine J_aload_n (pc := 8) hX 0 rfl dX7_sweep_8 ?_
    refine J_iload_n (pc := 9) hX 1 rfl dX7_sweep_9 ?_
    refine J_iconst (pc := 10) hX (v := (1 : Int32)) (by decide) dX7_sweep_10 ?_
    refine J_isub (pc := 11) hX dX7_sweep_11 ?_
    refine J_call2 (fun y7 I8 e9 => ?_)
    refine jrun_i (pc := 12) (jRunV hX s_X7_116 (ci := 7) (T := TX7) (N := 20) (As := [ji (p0 - (1 : Int32))]) (rest := []) rfl (by decide) (C_X7_sweeps Y hz0 t0 ht0 (p0 - (1 : Int32)) I0 L0 y7 I8 e9) ht0 rfl rfl ⟨by decide, by decide⟩ ⟨Nat.le_of_ble_eq_true rfl, Nat.le_of_ble_eq_true rfl⟩ (Nat.le_of_ble_eq_true rfl) dX7_sweep_12) ?_
    refine J_goto (pc := 15) hX (tgt := 24) (by decide) dX7_sweep_15 ?_
    exact J_iret (pc := 24) hX (hQ _) dX7_sweep_24
theorem C_X7_sweep (Y : jY) (hz0 : Y.zf = false) (t0 : Nat) (ht0 : shC t0 = 8) (p0 : Int32) (I0 : jI) (L0 : jL) (r : Int32) (I1 : jI) (h : X7_sweep t0 p0 I0 = some (r, I1)) : jMet Y yX7_sweep cX7_sweep 2 (some .int) 6 196 0 0 [jr t0, ji p0] NC shC rfC I0 L0 (some (ji r)) NC shC rfC I1 L0 :=
  jmet_of _ _ h (fun Z r => jQ Y Z 0 0 (some (ji r.1)) NC shC rfC r.2 L0) (fun _ => rfl) (by decide) (Nat.le_of_ble_eq_true rfl) (fun Z hX => W_X7_sweep hz0 t0 ht0 p0 I0 L0 hX (fun _ => rfl))
def X7_manyPages_F1 (t0 : Nat) (I0 : jI) (g3 : Int32 → Int32 → Option (Int32)) : Int32 → Int32 → Option (Int32) := fun (v1 : Int32) (v2 : Int32) =>
if (64 : Int32) ≤ v2 then (
some v1)
else (
(X7_isAnywhere t0 v2 I0).bind (fun (y5 : Int32) =>
jlet (if y5 = 0 then (0 : Int32) else (1 : Int32)) (fun (y8 : Int32) =>
jlet ((v1 + y8)) (fun (y9 : Int32) =>
g3 y9 (v2 + (1 : Int32))))))
def X7_manyPages (t0 : Nat) (I0 : jI) : Option (Int32) :=
jfx (X7_manyPages_F1 t0 I0) (fun _ _ => none) 1000 (0 : Int32) (0 : Int32)
set_option maxRecDepth 20000 in
set_option maxHeartbeats 4000000 in
theorem W_X7_manyPages {Y : jY} {Z : jZ} {Qf : Int32 → State → Prop} (hz0 : Y.zf = false) (t0 : Nat) (ht0 : shC t0 = 8) (I0 : jI) (L0 : jL) (hX : jOK Y Z RX7 cX7_manyPages 3 "manyPages" (some .int) 5 171 0 0) (hQ : ∀ r : Int32, Qf r = jQ Y Z 0 0 (some (ji r)) NC shC rfC I0 L0) : J Y Z 3 Qf (X7_manyPages t0 I0) 0 [(0, jr t0)] [] 0 0 NC shC rfC I0 L0 := by
  unfold X7_manyPages
  refine J_iconst (pc := 0) hX (v := (0 : Int32)) (by decide) dX7_manyPages_0 ?_
  refine J_istore_n (pc := 1) hX (lo' := [(1, ji (0 : Int32)), (0, jr t0)]) (by decide) rfl dX7_manyPages_1 ?_
  refine J_iconst (pc := 2) hX (v := (0 : Int32)) (by decide) dX7_manyPages_2 ?_
  refine J_istore_n (pc := 3) hX (lo' := [(2, ji (0 : Int32)), (1, ji (0 : Int32)), (0, jr t0)]) (by decide) rfl dX7_manyPages_3 ?_
  have lhg3 : ∀ mq : Nat, ∀ (v1 : Int32) (v2 : Int32), J Y Z 3 Qf (jfx (X7_manyPages_F1 t0 I0) (fun _ _ => none) mq v1 v2) 4 [(0, jr t0), (1, ji v1), (2, ji v2)] [] 0 0 NC shC rfC I0 L0 := by
    intro mq
    refine jfx_J (fun (_ : Nat) (g3 : Int32 → Int32 → Option (Int32)) => ∀ (v1 : Int32) (v2 : Int32), J Y Z 3 Qf (g3 v1 v2) 4 [(0, jr t0), (1, ji v1), (2, ji v2)] [] 0 0 NC shC rfC I0 L0) ?_ (fun _ g3 hg3 => ?_) mq
    · intro v1 v2
      exact J_none
    intro v1 v2
    unfold X7_manyPages_F1
    try dsimp only
    refine J_iload_n (pc := 4) hX 2 rfl dX7_manyPages_4 ?_
    refine J_bipush (pc := 5) hX (v := (64 : Int32)) (by decide) dX7_manyPages_5 ?_
    refine J_icmp_ge (pc := 7) hX (tgt := 32) (by decide) dX7_manyPages_7 (fun h4 => ?_) (fun h4 => ?_)
    · refine J_iload_n (pc := 32) hX 1 rfl dX7_manyPages_32 ?_
      exact J_iret (pc := 33) hX (hQ _) dX7_manyPages_33
    · refine J_iload_n (pc := 10) hX 1 rfl dX7_manyPages_10 ?_
      refine J_aload_n (pc := 11) hX 0 rfl dX7_manyPages_11 ?_
      refine J_iload_n (pc := 12) hX 2 rfl dX7_manyPages_12 ?_
      refine J_call1 (fun y5 e6 => ?_)
      refine jrun_i (pc := 13) (jRunV hX s_X7_101 (ci := 7) (T := TX7) (N := 20) (As := [ji v2]) (rest := [ji v1]) rfl (by decide) (C_X7_isAnywhere Y hz0 t0 ht0 v2 I0 L0 y5 e6) ht0 rfl rfl ⟨by decide, by decide⟩ ⟨Nat.le_of_ble_eq_true rfl, Nat.le_of_ble_eq_true rfl⟩ (Nat.le_of_ble_eq_true rfl) dX7_manyPages_13) ?_
      refine J_vjoin (fun kq (y8 : Int32) => J Y Z 3 Qf (kq) 24 [(0, jr t0), (1, ji v1), (2, ji v2)] [ji y8, ji v1] 0 0 NC shC rfC I0 L0) (fun y8 => ?_) (fun hj => ?_)
      · try dsimp only
        refine J_iadd (pc := 24) hX dX7_manyPages_24 ?_
        refine J_leti (fun y9 => ?_)
        refine J_istore_n (pc := 25) hX (lo' := [(1, ji y9), (0, jr t0), (2, ji v2)]) (by decide) rfl dX7_manyPages_25 ?_
        refine J_iinc (pc := 26) hX (v := (v2 + (1 : Int32))) (lo' := [(2, ji (v2 + (1 : Int32))), (1, ji y9), (0, jr t0)]) 2 rfl (by rfl) (by decide) rfl dX7_manyPages_26 ?_
        refine J_goto (pc := 29) hX (tgt := 4) (by decide) dX7_manyPages_29 ?_
        refine J_sub [2, 1, 0] rfl ?_
        exact hg3 y9 (v2 + (1 : Int32))
      try dsimp only at hj
      refine J_if_eqV (pc := 16) hX (tgt := 23) (by decide) dX7_manyPages_16 (fun h7 => ?_) (fun h7 => ?_)
      · refine J_iconst (pc := 23) hX (v := (0 : Int32)) (by decide) dX7_manyPages_23 ?_
        exact hj _
      · refine J_iconst (pc := 19) hX (v := (1 : Int32)) (by decide) dX7_manyPages_19 ?_
        refine J_goto (pc := 20) hX (tgt := 24) (by decide) dX7_manyPages_20 ?_
        exact hj _
  refine J_sub [2, 1, 0] rfl ?_
  exact lhg3 1000 (0 : Int32) (0 : Int32)
theorem C_X7_manyPages (Y : jY) (hz0 : Y.zf = false) (t0 : Nat) (ht0 : shC t0 = 8) (I0 : jI) (L0 : jL) (r : Int32) (h : X7_manyPages t0 I0 = some r) : jMet Y yX7_manyPages cX7_manyPages 3 (some .int) 5 171 0 0 [jr t0] NC shC rfC I0 L0 (some (ji r)) NC shC rfC I0 L0 :=
  jmet_of _ _ h (fun Z r => jQ Y Z 0 0 (some (ji r)) NC shC rfC I0 L0) (fun _ => rfl) (by decide) (Nat.le_of_ble_eq_true rfl) (fun Z hX => W_X7_manyPages hz0 t0 ht0 I0 L0 hX (fun _ => rfl))
def X7_clear (t0 : Nat) (I0 : jI) : Option (Int32 × jI) :=
(X7_manyPages t0 I0).bind (fun (y1 : Int32) =>
(X7_sweepsOut t0 I0).bind (fun (I3 : jI) =>
some (y1, I3)))
set_option maxRecDepth 20000 in
set_option maxHeartbeats 4000000 in
theorem W_X7_clear {Y : jY} {Z : jZ} {Qf : Int32 × jI → State → Prop} (hz0 : Y.zf = false) (t0 : Nat) (ht0 : shC t0 = 8) (I0 : jI) (L0 : jL) (hX : jOK Y Z RX7 cX7_clear 2 "clear" (some .int) 7 218 0 0) (hQ : ∀ r : Int32 × jI, Qf r = jQ Y Z 0 0 (some (ji r.1)) NC shC rfC r.2 L0) : J Y Z 2 Qf (X7_clear t0 I0) 0 [(0, jr t0)] [] 0 0 NC shC rfC I0 L0 := by
  unfold X7_clear
  refine J_aload_n (pc := 0) hX 0 rfl dX7_clear_0 ?_
  refine J_call1 (fun y1 e2 => ?_)
  refine jrun_i (pc := 1) (jRunV hX s_X7_150 (ci := 7) (T := TX7) (N := 20) (As := []) (rest := []) rfl (by decide) (C_X7_manyPages Y hz0 t0 ht0 I0 L0 y1 e2) ht0 rfl rfl ⟨by decide, by decide⟩ ⟨Nat.le_of_ble_eq_true rfl, Nat.le_of_ble_eq_true rfl⟩ (Nat.le_of_ble_eq_true rfl) dX7_clear_1) ?_
  refine J_istore_n (pc := 4) hX (lo' := [(1, ji y1), (0, jr t0)]) (by decide) rfl dX7_clear_4 ?_
  refine J_aload_n (pc := 5) hX 1 rfl dX7_clear_5 ?_
  refine J_call1 (fun I3 e4 => ?_)
  refine jrun_v (pc := 6) (jRunV hX s_X7_130 (ci := 7) (T := TX7) (N := 20) (As := []) (rest := []) rfl (by decide) (C_X7_sweepsOut Y hz0 t0 ht0 I0 L0 I3 e4) ht0 rfl rfl ⟨by decide, by decide⟩ ⟨Nat.le_of_ble_eq_true rfl, Nat.le_of_ble_eq_true rfl⟩ (Nat.le_of_ble_eq_true rfl) dX7_clear_6) ?_
  refine J_iload_n (pc := 9) hX 0 rfl dX7_clear_9 ?_
  exact J_iret (pc := 10) hX (hQ _) dX7_clear_10
theorem C_X7_clear (Y : jY) (hz0 : Y.zf = false) (t0 : Nat) (ht0 : shC t0 = 8) (I0 : jI) (L0 : jL) (r : Int32) (I1 : jI) (h : X7_clear t0 I0 = some (r, I1)) : jMet Y yX7_clear cX7_clear 2 (some .int) 7 218 0 0 [jr t0] NC shC rfC I0 L0 (some (ji r)) NC shC rfC I1 L0 :=
  jmet_of _ _ h (fun Z r => jQ Y Z 0 0 (some (ji r.1)) NC shC rfC r.2 L0) (fun _ => rfl) (by decide) (Nat.le_of_ble_eq_true rfl) (fun Z hX => W_X7_clear hz0 t0 ht0 I0 L0 hX (fun _ => rfl))
def X7_feed (t0 : Nat) (p0 : Int32) (I0 : jI) : Option (Int32 × jI) :=
(X7_isIn ((p0).toInt64) (0 : Int64) (255 : Int64)).bind (fun (y1 : Int32) =>
if y1 = 0 then (
jb2 (X7_refuses t0 (-52 : Int32) I0) (fun (y11 : Int32) (I12 : jI) =>
some (y11, I12)))
else (
if (I0 t0 8) = (250 : Int32) then (
jb2 (X7_refuses t0 (-56 : Int32) I0) (fun (y8 : Int32) (I9 : jI) =>
some (y8, I9)))
else (
if jin (I0 t0 8) 250 then jlet (jup I0 (rfC t0 7) ((I0 t0 8)).toNatClampNeg p0) (fun (I6 : jI) =>
jlet (jup I6 t0 8 ((I6 t0 8) + (1 : Int32))) (fun (I7 : jI) =>
some ((I7 t0 8), I7))) else none)))
set_option maxRecDepth 20000 in
set_option maxHeartbeats 4000000 in
theorem W_X7_feed {Y : jY} {Z : jZ} {Qf : Int32 × jI → State → Prop} (hz0 : Y.zf = false) (t0 : Nat) (ht0 : shC t0 = 8) (p0 : Int32) (I0 : jI) (L0 : jL) (hX : jOK Y Z RX7 cX7_feed 2 "feed" (some .int) 2 105 0 0) (hQ : ∀ r : Int32 × jI, Qf r = jQ Y Z 0 0 (some (ji r.1)) NC shC rfC r.2 L0) : J Y Z 2 Qf (X7_feed t0 p0 I0) 0 [(0, jr t0), (1, ji p0)] [] 0 0 NC shC rfC I0 L0 := by
  unfold X7_feed
  refine J_iload_n (pc := 0) hX 1 rfl dX7_feed_0 ?_
  refine J_i2l (pc := 1) hX dX7_feed_1 ?_
  refine J_lconst (pc := 2) hX (v := (0 : Int64)) (by decide) dX7_feed_2 ?_
  refine J_ldc2 (pc := 3) hX q_X7_154 dX7_feed_3 ?_
  refine J_call1 (fun y1 e2 => ?_)
  refine jrun_i (pc := 6) (jRunS hX s_X7_47 (As := [jl ((p0).toInt64), jl (0 : Int64), jl (255 : Int64)]) (rest := []) (C_X7_isIn Y hz0 ((p0).toInt64) (0 : Int64) (255 : Int64) I0 L0 y1 e2) rfl rfl ⟨by decide, by decide⟩ ⟨Nat.le_of_ble_eq_true rfl, Nat.le_of_ble_eq_true rfl⟩ (Nat.le_of_ble_eq_true rfl) dX7_feed_6) ?_
  refine J_if_ne (pc := 9) hX (tgt := 19) (by decide) dX7_feed_9 (fun h3 => ?_) (fun h3 => ?_)
  · refine J_aload_n (pc := 19) hX 0 rfl dX7_feed_19 ?_
    refine g_X7_156 (pc := 20) hX ht0 dX7_feed_20 ?_
    refine J_sipush (pc := 23) hX (v := (250 : Int32)) (by decide) dX7_feed_23 ?_
    refine J_icmp_ne (pc := 26) hX (tgt := 36) (by decide) dX7_feed_26 (fun h4 => ?_) (fun h4 => ?_)
    · refine J_aload_n (pc := 36) hX 0 rfl dX7_feed_36 ?_
      refine g_X7_22 (pc := 37) hX ht0 dX7_feed_37 ?_
      refine J_aload_n (pc := 40) hX 0 rfl dX7_feed_40 ?_
      refine g_X7_156 (pc := 41) hX ht0 dX7_feed_41 ?_
      refine J_iload_n (pc := 44) hX 1 rfl dX7_feed_44 ?_
      refine J_iast (pc := 45) hX (N := 250) (fs_7_7 t0 ht0) (by decide) dX7_feed_45 (fun h5 I6 => ?_)
      refine J_aload_n (pc := 46) hX 0 rfl dX7_feed_46 ?_
      refine J_dup (pc := 47) hX rfl dX7_feed_47 ?_
      refine g_X7_156 (pc := 48) hX ht0 dX7_feed_48 ?_
      refine J_iconst (pc := 51) hX (v := (1 : Int32)) (by decide) dX7_feed_51 ?_
      refine J_iadd (pc := 52) hX dX7_feed_52 ?_
      refine p_X7_156 (pc := 53) hX ht0 dX7_feed_53 (fun I7 => ?_)
      refine J_aload_n (pc := 56) hX 0 rfl dX7_feed_56 ?_
      refine g_X7_156 (pc := 57) hX ht0 dX7_feed_57 ?_
      exact J_iret (pc := 60) hX (hQ _) dX7_feed_60
    · refine J_aload_n (pc := 29) hX 0 rfl dX7_feed_29 ?_
      refine J_bipush (pc := 30) hX (v := (-56 : Int32)) (by decide) dX7_feed_30 ?_
      refine J_call2 (fun y8 I9 e10 => ?_)
      refine jrun_i (pc := 32) (jRunV hX s_X7_127 (ci := 7) (T := TX7) (N := 20) (As := [ji (-56 : Int32)]) (rest := []) rfl (by decide) (C_X7_refuses Y hz0 t0 ht0 (-56 : Int32) I0 L0 y8 I9 e10) ht0 rfl rfl ⟨by decide, by decide⟩ ⟨Nat.le_of_ble_eq_true rfl, Nat.le_of_ble_eq_true rfl⟩ (Nat.le_of_ble_eq_true rfl) dX7_feed_32) ?_
      exact J_iret (pc := 35) hX (hQ _) dX7_feed_35
  · refine J_aload_n (pc := 12) hX 0 rfl dX7_feed_12 ?_
    refine J_bipush (pc := 13) hX (v := (-52 : Int32)) (by decide) dX7_feed_13 ?_
    refine J_call2 (fun y11 I12 e13 => ?_)
    refine jrun_i (pc := 15) (jRunV hX s_X7_127 (ci := 7) (T := TX7) (N := 20) (As := [ji (-52 : Int32)]) (rest := []) rfl (by decide) (C_X7_refuses Y hz0 t0 ht0 (-52 : Int32) I0 L0 y11 I12 e13) ht0 rfl rfl ⟨by decide, by decide⟩ ⟨Nat.le_of_ble_eq_true rfl, Nat.le_of_ble_eq_true rfl⟩ (Nat.le_of_ble_eq_true rfl) dX7_feed_15) ?_
    exact J_iret (pc := 18) hX (hQ _) dX7_feed_18
theorem C_X7_feed (Y : jY) (hz0 : Y.zf = false) (t0 : Nat) (ht0 : shC t0 = 8) (p0 : Int32) (I0 : jI) (L0 : jL) (r : Int32) (I1 : jI) (h : X7_feed t0 p0 I0 = some (r, I1)) : jMet Y yX7_feed cX7_feed 2 (some .int) 2 105 0 0 [jr t0, ji p0] NC shC rfC I0 L0 (some (ji r)) NC shC rfC I1 L0 :=
  jmet_of _ _ h (fun Z r => jQ Y Z 0 0 (some (ji r.1)) NC shC rfC r.2 L0) (fun _ => rfl) (by decide) (Nat.le_of_ble_eq_true rfl) (fun Z hX => W_X7_feed hz0 t0 ht0 p0 I0 L0 hX (fun _ => rfl))
def X7_wipe (t0 : Nat) (I0 : jI) : Option (Int32 × jI) :=
jlet ((I0 t0 8)) (fun (y1 : Int32) =>
jlet (jup I0 t0 8 (0 : Int32)) (fun (I2 : jI) =>
some (y1, I2)))
set_option maxRecDepth 20000 in
set_option maxHeartbeats 4000000 in
theorem W_X7_wipe {Y : jY} {Z : jZ} {Qf : Int32 × jI → State → Prop} (hz0 : Y.zf = false) (t0 : Nat) (ht0 : shC t0 = 8) (I0 : jI) (L0 : jL) (hX : jOK Y Z RX7 cX7_wipe 2 "wipe" (some .int) 1 80 0 0) (hQ : ∀ r : Int32 × jI, Qf r = jQ Y Z 0 0 (some (ji r.1)) NC shC rfC r.2 L0) : J Y Z 2 Qf (X7_wipe t0 I0) 0 [(0, jr t0)] [] 0 0 NC shC rfC I0 L0 := by
  unfold X7_wipe
  refine J_aload_n (pc := 0) hX 0 rfl dX7_wipe_0 ?_
  refine g_X7_156 (pc := 1) hX ht0 dX7_wipe_1 ?_
  refine J_leti (fun y1 => ?_)
  refine J_istore_n (pc := 4) hX (lo' := [(1, ji y1), (0, jr t0)]) (by decide) rfl dX7_wipe_4 ?_
  refine J_aload_n (pc := 5) hX 1 rfl dX7_wipe_5 ?_
  refine J_iconst (pc := 6) hX (v := (0 : Int32)) (by decide) dX7_wipe_6 ?_
  refine p_X7_156 (pc := 7) hX ht0 dX7_wipe_7 (fun I2 => ?_)
  refine J_iload_n (pc := 10) hX 0 rfl dX7_wipe_10 ?_
  exact J_iret (pc := 11) hX (hQ _) dX7_wipe_11
theorem C_X7_wipe (Y : jY) (hz0 : Y.zf = false) (t0 : Nat) (ht0 : shC t0 = 8) (I0 : jI) (L0 : jL) (r : Int32) (I1 : jI) (h : X7_wipe t0 I0 = some (r, I1)) : jMet Y yX7_wipe cX7_wipe 2 (some .int) 1 80 0 0 [jr t0] NC shC rfC I0 L0 (some (ji r)) NC shC rfC I1 L0 :=
  jmet_of _ _ h (fun Z r => jQ Y Z 0 0 (some (ji r.1)) NC shC rfC r.2 L0) (fun _ => rfl) (by decide) (Nat.le_of_ble_eq_true rfl) (fun Z hX => W_X7_wipe hz0 t0 ht0 I0 L0 hX (fun _ => rfl))
def X7_peek (t0 : Nat) (I0 : jI) : Option (Int32) :=
if (I0 t0 8) ≤ (I0 t0 9) then (
some (-1 : Int32))
else (
if jin (I0 t0 9) 250 then (
some (I0 (rfC t0 7) ((I0 t0 9)).toNatClampNeg)) else none)
set_option maxRecDepth 20000 in
set_option maxHeartbeats 4000000 in
theorem W_X7_peek {Y : jY} {Z : jZ} {Qf : Int32 → State → Prop} (hz0 : Y.zf = false) (t0 : Nat) (ht0 : shC t0 = 8) (I0 : jI) (L0 : jL) (hX : jOK Y Z RX7 cX7_peek 1 "peek" (some .int) 1 80 0 0) (hQ : ∀ r : Int32, Qf r = jQ Y Z 0 0 (some (ji r)) NC shC rfC I0 L0) : J Y Z 1 Qf (X7_peek t0 I0) 0 [(0, jr t0)] [] 0 0 NC shC rfC I0 L0 := by
  unfold X7_peek
  refine J_aload_n (pc := 0) hX 0 rfl dX7_peek_0 ?_
  refine g_X7_159 (pc := 1) hX ht0 dX7_peek_1 ?_
  refine J_aload_n (pc := 4) hX 0 rfl dX7_peek_4 ?_
  refine g_X7_156 (pc := 5) hX ht0 dX7_peek_5 ?_
  refine J_icmp_ge (pc := 8) hX (tgt := 23) (by decide) dX7_peek_8 (fun h1 => ?_) (fun h1 => ?_)
  · refine J_iconst (pc := 23) hX (v := (-1 : Int32)) (by decide) dX7_peek_23 ?_
    exact J_iret (pc := 24) hX (hQ _) dX7_peek_24
  · refine J_aload_n (pc := 11) hX 0 rfl dX7_peek_11 ?_
    refine g_X7_22 (pc := 12) hX ht0 dX7_peek_12 ?_
    refine J_aload_n (pc := 15) hX 0 rfl dX7_peek_15 ?_
    refine g_X7_159 (pc := 16) hX ht0 dX7_peek_16 ?_
    refine J_iald (pc := 19) hX (N := 250) (fs_7_7 t0 ht0) (by decide) dX7_peek_19 (fun h2 => ?_)
    refine J_goto (pc := 20) hX (tgt := 24) (by decide) dX7_peek_20 ?_
    exact J_iret (pc := 24) hX (hQ _) dX7_peek_24
theorem C_X7_peek (Y : jY) (hz0 : Y.zf = false) (t0 : Nat) (ht0 : shC t0 = 8) (I0 : jI) (L0 : jL) (r : Int32) (h : X7_peek t0 I0 = some r) : jMet Y yX7_peek cX7_peek 1 (some .int) 1 80 0 0 [jr t0] NC shC rfC I0 L0 (some (ji r)) NC shC rfC I0 L0 :=
  jmet_of _ _ h (fun Z r => jQ Y Z 0 0 (some (ji r)) NC shC rfC I0 L0) (fun _ => rfl) (by decide) (Nat.le_of_ble_eq_true rfl) (fun Z hX => W_X7_peek hz0 t0 ht0 I0 L0 hX (fun _ => rfl))
def X7_wrong (t0 : Nat) (p0 : Int32) (I0 : jI) : Option (jI) :=
if 0 ≤ (I0 t0 10) then (
jlet (jup I0 t0 10 (I0 t0 10)) (fun (I2 : jI) =>
some I2))
else (
jlet (jup I0 t0 10 p0) (fun (I3 : jI) =>
some I3))
set_option maxRecDepth 20000 in
set_option maxHeartbeats 4000000 in
theorem W_X7_wrong {Y : jY} {Z : jZ} {Qf : jI → State → Prop} (hz0 : Y.zf = false) (t0 : Nat) (ht0 : shC t0 = 8) (p0 : Int32) (I0 : jI) (L0 : jL) (hX : jOK Y Z RX7 cX7_wrong 2 "wrong" none 1 80 0 0) (hQ : ∀ r : jI, Qf r = jQ Y Z 0 0 none NC shC rfC r L0) : J Y Z 2 Qf (X7_wrong t0 p0 I0) 0 [(0, jr t0), (1, ji p0)] [] 0 0 NC shC rfC I0 L0 := by
  unfold X7_wrong
  refine J_aload_n (pc := 0) hX 0 rfl dX7_wrong_0 ?_
  refine J_aload_n (pc := 1) hX 0 rfl dX7_wrong_1 ?_
  refine g_X7_162 (pc := 2) hX ht0 dX7_wrong_2 ?_
  refine J_if_ge (pc := 5) hX (tgt := 12) (by decide) dX7_wrong_5 (fun h1 => ?_) (fun h1 => ?_)
  · refine J_aload_n (pc := 12) hX 0 rfl dX7_wrong_12 ?_
    refine g_X7_162 (pc := 13) hX ht0 dX7_wrong_13 ?_
    refine p_X7_162 (pc := 16) hX ht0 dX7_wrong_16 (fun I2 => ?_)
    exact J_vret (pc := 19) hX (hQ _) dX7_wrong_19
  · refine J_iload_n (pc := 8) hX 1 rfl dX7_wrong_8 ?_
    refine J_goto (pc := 9) hX (tgt := 16) (by decide) dX7_wrong_9 ?_
    refine p_X7_162 (pc := 16) hX ht0 dX7_wrong_16 (fun I3 => ?_)
    exact J_vret (pc := 19) hX (hQ _) dX7_wrong_19
theorem C_X7_wrong (Y : jY) (hz0 : Y.zf = false) (t0 : Nat) (ht0 : shC t0 = 8) (p0 : Int32) (I0 : jI) (L0 : jL) (I1 : jI) (h : X7_wrong t0 p0 I0 = some I1) : jMet Y yX7_wrong cX7_wrong 2 none 1 80 0 0 [jr t0, ji p0] NC shC rfC I0 L0 none NC shC rfC I1 L0 :=
  jmet_of _ _ h (fun Z r => jQ Y Z 0 0 none NC shC rfC r L0) (fun _ => rfl) (by decide) (Nat.le_of_ble_eq_true rfl) (fun Z hX => W_X7_wrong hz0 t0 ht0 p0 I0 L0 hX (fun _ => rfl))
def X7_number_F1 (t0 : Nat) (y1 : Int32) (k4 : Int32 → jI → Option (Int32 × jI)) (g15 : Int32 → jI → Option (Int32 × jI)) : Int32 → jI → Option (Int32 × jI) := fun (v13 : Int32) (I14 : jI) =>
if 0 ≤ (I14 t0 10) then (
k4 v13 I14)
else (
if (3 : Int32) ≤ ((I14 t0 9) - y1) then (
k4 v13 I14)
else (
(X7_peek t0 I14).bind (fun (y18 : Int32) =>
(X7_isIn ((y18).toInt64) (48 : Int64) (57 : Int64)).bind (fun (y20 : Int32) =>
if y20 = 0 then (
k4 v13 I14)
else (
(X7_peek t0 I14).bind (fun (y23 : Int32) =>
jlet (((((10 : Int32) * v13) + y23) - (48 : Int32))) (fun (y25 : Int32) =>
jlet (jup I14 t0 9 ((I14 t0 9) + (1 : Int32))) (fun (I26 : jI) =>
g15 y25 I26))))))))
def X7_number (t0 : Nat) (p0 : Int32) (p1 : Int32) (I0 : jI) : Option (Int32 × jI) :=
jlet ((I0 t0 9)) (fun (y1 : Int32) =>
jlet (fun (v2 : Int32) (I3 : jI) =>
if (I3 t0 9) = y1 then (
(X7_wrong t0 y1 I3).bind (fun (I6 : jI) =>
some (v2, I6)))
else (
(X7_isIn ((v2).toInt64) ((p0).toInt64) ((p1).toInt64)).bind (fun (y8 : Int32) =>
if y8 = 0 then (
(X7_wrong t0 y1 I3).bind (fun (I11 : jI) =>
some (v2, I11)))
else (
some (v2, I3))))) (fun (k4 : Int32 → jI → Option (Int32 × jI)) =>
jfx (X7_number_F1 t0 y1 k4) (fun _ _ => none) 1000 (0 : Int32) I0))
set_option maxRecDepth 20000 in
set_option maxHeartbeats 4000000 in
theorem W_X7_number {Y : jY} {Z : jZ} {Qf : Int32 × jI → State → Prop} (hz0 : Y.zf = false) (t0 : Nat) (ht0 : shC t0 = 8) (p0 : Int32) (p1 : Int32) (I0 : jI) (L0 : jL) (hX : jOK Y Z RX7 cX7_number 5 "number" (some .int) 2 105 0 0) (hQ : ∀ r : Int32 × jI, Qf r = jQ Y Z 0 0 (some (ji r.1)) NC shC rfC r.2 L0) : J Y Z 5 Qf (X7_number t0 p0 p1 I0) 0 [(0, jr t0), (1, ji p0), (2, ji p1)] [] 0 0 NC shC rfC I0 L0 := by
  unfold X7_number
  refine J_aload_n (pc := 0) hX 0 rfl dX7_number_0 ?_
  refine g_X7_159 (pc := 1) hX ht0 dX7_number_1 ?_
  refine J_leti (fun y1 => ?_)
  refine J_istore_n (pc := 4) hX (lo' := [(3, ji y1), (0, jr t0), (1, ji p0), (2, ji p1)]) (by decide) rfl dX7_number_4 ?_
  refine J_iconst (pc := 5) hX (v := (0 : Int32)) (by decide) dX7_number_5 ?_
  refine J_istore (pc := 6) hX (lo' := [(4, ji (0 : Int32)), (3, ji y1), (0, jr t0), (1, ji p0), (2, ji p1)]) (by decide) rfl dX7_number_6 ?_
  refine J_join (fun (k4 : Int32 → jI → Option (Int32 × jI)) => ∀ (v2 : Int32) (I3 : jI), J Y Z 5 Qf (k4 v2 I3) 70 [(0, jr t0), (1, ji p0), (2, ji p1), (3, ji y1), (4, ji v2)] [] 0 0 NC shC rfC I3 L0) ?_ (fun k4 hk4 => ?_)
  · intro v2 I3
    try dsimp only
    refine J_aload_n (pc := 70) hX 0 rfl dX7_number_70 ?_
    refine g_X7_159 (pc := 71) hX ht0 dX7_number_71 ?_
    refine J_iload_n (pc := 74) hX 3 rfl dX7_number_74 ?_
    refine J_icmp_eq (pc := 75) hX (tgt := 91) (by decide) dX7_number_75 (fun h5 => ?_) (fun h5 => ?_)
    · refine J_aload_n (pc := 91) hX 0 rfl dX7_number_91 ?_
      refine J_iload_n (pc := 92) hX 3 rfl dX7_number_92 ?_
      refine J_call1 (fun I6 e7 => ?_)
      refine jrun_v (pc := 93) (jRunV hX s_X7_172 (ci := 7) (T := TX7) (N := 20) (As := [ji y1]) (rest := []) rfl (by decide) (C_X7_wrong Y hz0 t0 ht0 y1 I3 L0 I6 e7) ht0 rfl rfl ⟨by decide, by decide⟩ ⟨Nat.le_of_ble_eq_true rfl, Nat.le_of_ble_eq_true rfl⟩ (Nat.le_of_ble_eq_true rfl) dX7_number_93) ?_
      refine J_iload (pc := 96) hX 4 rfl dX7_number_96 ?_
      exact J_iret (pc := 98) hX (hQ _) dX7_number_98
    · refine J_iload (pc := 78) hX 4 rfl dX7_number_78 ?_
      refine J_i2l (pc := 80) hX dX7_number_80 ?_
      refine J_iload_n (pc := 81) hX 1 rfl dX7_number_81 ?_
      refine J_i2l (pc := 82) hX dX7_number_82 ?_
      refine J_iload_n (pc := 83) hX 2 rfl dX7_number_83 ?_
      refine J_i2l (pc := 84) hX dX7_number_84 ?_
      refine J_call1 (fun y8 e9 => ?_)
      refine jrun_i (pc := 85) (jRunS hX s_X7_47 (As := [jl ((v2).toInt64), jl ((p0).toInt64), jl ((p1).toInt64)]) (rest := []) (C_X7_isIn Y hz0 ((v2).toInt64) ((p0).toInt64) ((p1).toInt64) I3 L0 y8 e9) rfl rfl ⟨by decide, by decide⟩ ⟨Nat.le_of_ble_eq_true rfl, Nat.le_of_ble_eq_true rfl⟩ (Nat.le_of_ble_eq_true rfl) dX7_number_85) ?_
      refine J_if_ne (pc := 88) hX (tgt := 96) (by decide) dX7_number_88 (fun h10 => ?_) (fun h10 => ?_)
      · refine J_iload (pc := 96) hX 4 rfl dX7_number_96 ?_
        exact J_iret (pc := 98) hX (hQ _) dX7_number_98
      · refine J_aload_n (pc := 91) hX 0 rfl dX7_number_91 ?_
        refine J_iload_n (pc := 92) hX 3 rfl dX7_number_92 ?_
        refine J_call1 (fun I11 e12 => ?_)
        refine jrun_v (pc := 93) (jRunV hX s_X7_172 (ci := 7) (T := TX7) (N := 20) (As := [ji y1]) (rest := []) rfl (by decide) (C_X7_wrong Y hz0 t0 ht0 y1 I3 L0 I11 e12) ht0 rfl rfl ⟨by decide, by decide⟩ ⟨Nat.le_of_ble_eq_true rfl, Nat.le_of_ble_eq_true rfl⟩ (Nat.le_of_ble_eq_true rfl) dX7_number_93) ?_
        refine J_iload (pc := 96) hX 4 rfl dX7_number_96 ?_
        exact J_iret (pc := 98) hX (hQ _) dX7_number_98
  have lhg15 : ∀ mq : Nat, ∀ (v13 : Int32) (I14 : jI), J Y Z 5 Qf (jfx (X7_number_F1 t0 y1 k4) (fun _ _ => none) mq v13 I14) 8 [(0, jr t0), (1, ji p0), (2, ji p1), (3, ji y1), (4, ji v13)] [] 0 0 NC shC rfC I14 L0 := by
    intro mq
    refine jfx_J (fun (_ : Nat) (g15 : Int32 → jI → Option (Int32 × jI)) => ∀ (v13 : Int32) (I14 : jI), J Y Z 5 Qf (g15 v13 I14) 8 [(0, jr t0), (1, ji p0), (2, ji p1), (3, ji y1), (4, ji v13)] [] 0 0 NC shC rfC I14 L0) ?_ (fun _ g15 hg15 => ?_) mq
    · intro v13 I14
      exact J_none
    intro v13 I14
    unfold X7_number_F1
    try dsimp only
    refine J_aload_n (pc := 8) hX 0 rfl dX7_number_8 ?_
    refine g_X7_162 (pc := 9) hX ht0 dX7_number_9 ?_
    refine J_if_ge (pc := 12) hX (tgt := 70) (by decide) dX7_number_12 (fun h16 => ?_) (fun h16 => ?_)
    · exact hk4 v13 I14
    · refine J_aload_n (pc := 15) hX 0 rfl dX7_number_15 ?_
      refine g_X7_159 (pc := 16) hX ht0 dX7_number_16 ?_
      refine J_iload_n (pc := 19) hX 3 rfl dX7_number_19 ?_
      refine J_isub (pc := 20) hX dX7_number_20 ?_
      refine J_iconst (pc := 21) hX (v := (3 : Int32)) (by decide) dX7_number_21 ?_
      refine J_icmp_ge (pc := 22) hX (tgt := 70) (by decide) dX7_number_22 (fun h17 => ?_) (fun h17 => ?_)
      · exact hk4 v13 I14
      · refine J_aload_n (pc := 25) hX 0 rfl dX7_number_25 ?_
        refine J_call1 (fun y18 e19 => ?_)
        refine jrun_i (pc := 26) (jRunV hX s_X7_165 (ci := 7) (T := TX7) (N := 20) (As := []) (rest := []) rfl (by decide) (C_X7_peek Y hz0 t0 ht0 I14 L0 y18 e19) ht0 rfl rfl ⟨by decide, by decide⟩ ⟨Nat.le_of_ble_eq_true rfl, Nat.le_of_ble_eq_true rfl⟩ (Nat.le_of_ble_eq_true rfl) dX7_number_26) ?_
        refine J_i2l (pc := 29) hX dX7_number_29 ?_
        refine J_ldc2 (pc := 30) hX q_X7_168 dX7_number_30 ?_
        refine J_ldc2 (pc := 33) hX q_X7_170 dX7_number_33 ?_
        refine J_call1 (fun y20 e21 => ?_)
        refine jrun_i (pc := 36) (jRunS hX s_X7_47 (As := [jl ((y18).toInt64), jl (48 : Int64), jl (57 : Int64)]) (rest := []) (C_X7_isIn Y hz0 ((y18).toInt64) (48 : Int64) (57 : Int64) I14 L0 y20 e21) rfl rfl ⟨by decide, by decide⟩ ⟨Nat.le_of_ble_eq_true rfl, Nat.le_of_ble_eq_true rfl⟩ (Nat.le_of_ble_eq_true rfl) dX7_number_36) ?_
        refine J_if_eq (pc := 39) hX (tgt := 70) (by decide) dX7_number_39 (fun h22 => ?_) (fun h22 => ?_)
        · exact hk4 v13 I14
        · refine J_bipush (pc := 42) hX (v := (10 : Int32)) (by decide) dX7_number_42 ?_
          refine J_iload (pc := 44) hX 4 rfl dX7_number_44 ?_
          refine J_imul (pc := 46) hX dX7_number_46 ?_
          refine J_aload_n (pc := 47) hX 0 rfl dX7_number_47 ?_
          refine J_call1 (fun y23 e24 => ?_)
          refine jrun_i (pc := 48) (jRunV hX s_X7_165 (ci := 7) (T := TX7) (N := 20) (As := []) (rest := [ji ((10 : Int32) * v13)]) rfl (by decide) (C_X7_peek Y hz0 t0 ht0 I14 L0 y23 e24) ht0 rfl rfl ⟨by decide, by decide⟩ ⟨Nat.le_of_ble_eq_true rfl, Nat.le_of_ble_eq_true rfl⟩ (Nat.le_of_ble_eq_true rfl) dX7_number_48) ?_
          refine J_iadd (pc := 51) hX dX7_number_51 ?_
          refine J_bipush (pc := 52) hX (v := (48 : Int32)) (by decide) dX7_number_52 ?_
          refine J_isub (pc := 54) hX dX7_number_54 ?_
          refine J_leti (fun y25 => ?_)
          refine J_istore (pc := 55) hX (lo' := [(4, ji y25), (0, jr t0), (1, ji p0), (2, ji p1), (3, ji y1)]) (by decide) rfl dX7_number_55 ?_
          refine J_aload_n (pc := 57) hX 1 rfl dX7_number_57 ?_
          refine J_dup (pc := 58) hX rfl dX7_number_58 ?_
          refine g_X7_159 (pc := 59) hX ht0 dX7_number_59 ?_
          refine J_iconst (pc := 62) hX (v := (1 : Int32)) (by decide) dX7_number_62 ?_
          refine J_iadd (pc := 63) hX dX7_number_63 ?_
          refine p_X7_159 (pc := 64) hX ht0 dX7_number_64 (fun I26 => ?_)
          refine J_goto (pc := 67) hX (tgt := 8) (by decide) dX7_number_67 ?_
          refine J_sub [1, 2, 3, 4, 0] rfl ?_
          exact hg15 y25 I26
  refine J_sub [2, 3, 4, 1, 0] rfl ?_
  exact lhg15 1000 (0 : Int32) I0
theorem C_X7_number (Y : jY) (hz0 : Y.zf = false) (t0 : Nat) (ht0 : shC t0 = 8) (p0 : Int32) (p1 : Int32) (I0 : jI) (L0 : jL) (r : Int32) (I1 : jI) (h : X7_number t0 p0 p1 I0 = some (r, I1)) : jMet Y yX7_number cX7_number 5 (some .int) 2 105 0 0 [jr t0, ji p0, ji p1] NC shC rfC I0 L0 (some (ji r)) NC shC rfC I1 L0 :=
  jmet_of _ _ h (fun Z r => jQ Y Z 0 0 (some (ji r.1)) NC shC rfC r.2 L0) (fun _ => rfl) (by decide) (Nat.le_of_ble_eq_true rfl) (fun Z hX => W_X7_number hz0 t0 ht0 p0 p1 I0 L0 hX (fun _ => rfl))
def X7_part (t0 : Nat) (p0 : Int32) (I0 : jI) : Option (Int32 × jI) :=
(X7_peek t0 I0).bind (fun (y1 : Int32) =>
jlet (
jlet (jup I0 t0 9 ((I0 t0 9) + (1 : Int32))) (fun (I4 : jI) =>
jlet (if y1 = (115 : Int32) then (1 : Int32) else (0 : Int32)) (fun (y6 : Int32) =>
jlet (fun (v7 : Int32) =>
jb2 (X7_number t0 y6 v7 I4) (fun (y9 : Int32) (I10 : jI) =>
jlet (fun (v12 : Int32) (I13 : jI) =>
if p0 = 0 then (
some ((0 : Int32), I13))
else (
if (I13 t0 10) < 0 then (
jlet (fun (I17 : jI) =>
jlet (
some ((I17 t0 5), I17)) (fun (k19 : Option (Int32 × jI)) =>
if y1 = (114 : Int32) then (
k19)
else (
if y1 = (119 : Int32) then (
k19)
else (
some ((0 : Int32), I17))))) (fun (k18 : jI → Option (Int32 × jI)) =>
if y1 = (115 : Int32) then (
jb2 (X7_sweeps t0 (y9 - (1 : Int32)) I13) (fun (y33 : Int32) (I34 : jI) =>
k18 I34))
else (
if y1 = (97 : Int32) then (
if jin (691 : Int32) 784 then jlet (jup I13 (rfC t0 0) ((691 : Int32)).toNatClampNeg y9) (fun (I32 : jI) =>
k18 I32) else none)
else (
if y1 = (114 : Int32) then (
jb2 (X7_reads t0 y9 I13) (fun (y28 : Int32) (I29 : jI) =>
k18 I29))
else (
jb2 (X7_writes t0 y9 v12 I13) (fun (y25 : Int32) (I26 : jI) =>
k18 I26))))))
else (
some ((0 : Int32), I13)))) (fun (k14 : Int32 → jI → Option (Int32 × jI)) =>
if y1 = (119 : Int32) then (
(X7_peek t0 I10).bind (fun (y37 : Int32) =>
jlet (fun (I39 : jI) =>
jlet (jup I39 t0 9 ((I39 t0 9) + (1 : Int32))) (fun (I41 : jI) =>
jb2 (X7_number t0 (0 : Int32) (999 : Int32) I41) (fun (y42 : Int32) (I43 : jI) =>
k14 y42 I43))) (fun (k40 : jI → Option (Int32 × jI)) =>
if y37 = (61 : Int32) then (
k40 I10)
else (
(X7_wrong t0 (I10 t0 9) I10).bind (fun (I46 : jI) =>
k40 I46)))))
else (
k14 (0 : Int32) I10)))) (fun (k8 : Int32 → Option (Int32 × jI)) =>
if y1 = (115 : Int32) then (
if jin (688 : Int32) 784 then (
k8 (I4 (rfC t0 0) ((688 : Int32)).toNatClampNeg)) else none)
else (
if y1 = (97 : Int32) then (
k8 (8 : Int32))
else (
k8 (63 : Int32))))))) (fun (k3 : Option (Int32 × jI)) =>
if y1 = (114 : Int32) then (
k3)
else (
if y1 = (119 : Int32) then (
k3)
else (
if y1 = (115 : Int32) then (
k3)
else (
if y1 = (97 : Int32) then (
k3)
else (
(X7_wrong t0 (I0 t0 9) I0).bind (fun (I55 : jI) =>
some ((0 : Int32), I55))))))))
set_option maxRecDepth 20000 in
set_option maxHeartbeats 4000000 in
theorem W_X7_part {Y : jY} {Z : jZ} {Qf : Int32 × jI → State → Prop} (hz0 : Y.zf = false) (t0 : Nat) (ht0 : shC t0 = 8) (p0 : Int32) (I0 : jI) (L0 : jL) (hX : jOK Y Z RX7 cX7_part 5 "part" (some .int) 48 2250 0 0) (hQ : ∀ r : Int32 × jI, Qf r = jQ Y Z 0 0 (some (ji r.1)) NC shC rfC r.2 L0) : J Y Z 5 Qf (X7_part t0 p0 I0) 0 [(0, jr t0), (1, ji p0)] [] 0 0 NC shC rfC I0 L0 := by
  unfold X7_part
  refine J_aload_n (pc := 0) hX 0 rfl dX7_part_0 ?_
  refine J_call1 (fun y1 e2 => ?_)
  refine jrun_i (pc := 1) (jRunV hX s_X7_165 (ci := 7) (T := TX7) (N := 20) (As := []) (rest := []) rfl (by decide) (C_X7_peek Y hz0 t0 ht0 I0 L0 y1 e2) ht0 rfl rfl ⟨by decide, by decide⟩ ⟨Nat.le_of_ble_eq_true rfl, Nat.le_of_ble_eq_true rfl⟩ (Nat.le_of_ble_eq_true rfl) dX7_part_1) ?_
  refine J_istore_n (pc := 4) hX (lo' := [(2, ji y1), (0, jr t0), (1, ji p0)]) (by decide) rfl dX7_part_4 ?_
  refine J_iload_n (pc := 5) hX 0 rfl dX7_part_5 ?_
  refine J_bipush (pc := 6) hX (v := (114 : Int32)) (by decide) dX7_part_6 ?_
  refine J_join (fun (k3 : Option (Int32 × jI)) => J Y Z 5 Qf (k3) 39 [(0, jr t0), (1, ji p0), (2, ji y1)] [] 0 0 NC shC rfC I0 L0) ?_ (fun k3 hk3 => ?_)
  · refine J_aload_n (pc := 39) hX 0 rfl dX7_part_39 ?_
    refine J_dup (pc := 40) hX rfl dX7_part_40 ?_
    refine g_X7_159 (pc := 41) hX ht0 dX7_part_41 ?_
    refine J_iconst (pc := 44) hX (v := (1 : Int32)) (by decide) dX7_part_44 ?_
    refine J_iadd (pc := 45) hX dX7_part_45 ?_
    refine p_X7_159 (pc := 46) hX ht0 dX7_part_46 (fun I4 => ?_)
    refine J_aload_n (pc := 49) hX 0 rfl dX7_part_49 ?_
    refine J_iload_n (pc := 50) hX 2 rfl dX7_part_50 ?_
    refine J_bipush (pc := 51) hX (v := (115 : Int32)) (by decide) dX7_part_51 ?_
    refine J_vjoin (fun kq (y6 : Int32) => J Y Z 5 Qf (kq) 61 [(0, jr t0), (1, ji p0), (2, ji y1)] [ji y6, jr t0] 0 0 NC shC rfC I4 L0) (fun y6 => ?_) (fun hj => ?_)
    · try dsimp only
      refine J_iload_n (pc := 61) hX 2 rfl dX7_part_61 ?_
      refine J_bipush (pc := 62) hX (v := (115 : Int32)) (by decide) dX7_part_62 ?_
      refine J_join (fun (k8 : Int32 → Option (Int32 × jI)) => ∀ (v7 : Int32), J Y Z 5 Qf (k8 v7) 91 [(0, jr t0), (1, ji p0), (2, ji y1)] [ji v7, ji y6, jr t0] 0 0 NC shC rfC I4 L0) ?_ (fun k8 hk8 => ?_)
      · intro v7
        try dsimp only
        refine J_call2 (fun y9 I10 e11 => ?_)
        refine jrun_i (pc := 91) (jRunV hX s_X7_176 (ci := 7) (T := TX7) (N := 20) (As := [ji y6, ji v7]) (rest := []) rfl (by decide) (C_X7_number Y hz0 t0 ht0 y6 v7 I4 L0 y9 I10 e11) ht0 rfl rfl ⟨by decide, by decide⟩ ⟨Nat.le_of_ble_eq_true rfl, Nat.le_of_ble_eq_true rfl⟩ (Nat.le_of_ble_eq_true rfl) dX7_part_91) ?_
        refine J_istore_n (pc := 94) hX (lo' := [(3, ji y9), (0, jr t0), (1, ji p0), (2, ji y1)]) (by decide) rfl dX7_part_94 ?_
        refine J_iconst (pc := 95) hX (v := (0 : Int32)) (by decide) dX7_part_95 ?_
        refine J_istore (pc := 96) hX (lo' := [(4, ji (0 : Int32)), (3, ji y9), (0, jr t0), (1, ji p0), (2, ji y1)]) (by decide) rfl dX7_part_96 ?_
        refine J_iload_n (pc := 98) hX 4 rfl dX7_part_98 ?_
        refine J_bipush (pc := 99) hX (v := (119 : Int32)) (by decide) dX7_part_99 ?_
        refine J_join (fun (k14 : Int32 → jI → Option (Int32 × jI)) => ∀ (v12 : Int32) (I13 : jI), J Y Z 5 Qf (k14 v12 I13) 141 [(0, jr t0), (1, ji p0), (2, ji y1), (3, ji y9), (4, ji v12)] [] 0 0 NC shC rfC I13 L0) ?_ (fun k14 hk14 => ?_)
        · intro v12 I13
          try dsimp only
          refine J_iload_n (pc := 141) hX 1 rfl dX7_part_141 ?_
          refine J_if_eq (pc := 142) hX (tgt := 152) (by decide) dX7_part_142 (fun h15 => ?_) (fun h15 => ?_)
          · refine J_iconst (pc := 152) hX (v := (0 : Int32)) (by decide) dX7_part_152 ?_
            exact J_iret (pc := 153) hX (hQ _) dX7_part_153
          · refine J_aload_n (pc := 145) hX 0 rfl dX7_part_145 ?_
            refine g_X7_162 (pc := 146) hX ht0 dX7_part_146 ?_
            refine J_if_lt (pc := 149) hX (tgt := 154) (by decide) dX7_part_149 (fun h16 => ?_) (fun h16 => ?_)
            · refine J_iload_n (pc := 154) hX 2 rfl dX7_part_154 ?_
              refine J_bipush (pc := 155) hX (v := (115 : Int32)) (by decide) dX7_part_155 ?_
              refine J_join (fun (k18 : jI → Option (Int32 × jI)) => ∀ (I17 : jI), J Y Z 5 Qf (k18 I17) 212 [(0, jr t0), (2, ji y1)] [] 0 0 NC shC rfC I17 L0) ?_ (fun k18 hk18 => ?_)
              · intro I17
                try dsimp only
                refine J_iload_n (pc := 212) hX 1 rfl dX7_part_212 ?_
                refine J_bipush (pc := 213) hX (v := (114 : Int32)) (by decide) dX7_part_213 ?_
                refine J_join (fun (k19 : Option (Int32 × jI)) => J Y Z 5 Qf (k19) 224 [(0, jr t0)] [] 0 0 NC shC rfC I17 L0) ?_ (fun k19 hk19 => ?_)
                · refine J_aload_n (pc := 224) hX 0 rfl dX7_part_224 ?_
                  refine g_X7_94 (pc := 225) hX ht0 dX7_part_225 ?_
                  refine J_goto (pc := 228) hX (tgt := 232) (by decide) dX7_part_228 ?_
                  exact J_iret (pc := 232) hX (hQ _) dX7_part_232
                refine J_icmp_eq (pc := 215) hX (tgt := 224) (by decide) dX7_part_215 (fun h20 => ?_) (fun h20 => ?_)
                · refine J_sub [0] rfl ?_
                  exact hk19
                · refine J_iload_n (pc := 218) hX 1 rfl dX7_part_218 ?_
                  refine J_bipush (pc := 219) hX (v := (119 : Int32)) (by decide) dX7_part_219 ?_
                  refine J_icmp_ne (pc := 221) hX (tgt := 231) (by decide) dX7_part_221 (fun h21 => ?_) (fun h21 => ?_)
                  · refine J_iconst (pc := 231) hX (v := (0 : Int32)) (by decide) dX7_part_231 ?_
                    exact J_iret (pc := 232) hX (hQ _) dX7_part_232
                  · refine J_sub [0] rfl ?_
                    exact hk19
              refine J_icmp_ne (pc := 157) hX (tgt := 171) (by decide) dX7_part_157 (fun h22 => ?_) (fun h22 => ?_)
              · refine J_iload_n (pc := 171) hX 2 rfl dX7_part_171 ?_
                refine J_bipush (pc := 172) hX (v := (97 : Int32)) (by decide) dX7_part_172 ?_
                refine J_icmp_ne (pc := 174) hX (tgt := 189) (by decide) dX7_part_174 (fun h23 => ?_) (fun h23 => ?_)
                · refine J_iload_n (pc := 189) hX 2 rfl dX7_part_189 ?_
                  refine J_bipush (pc := 190) hX (v := (114 : Int32)) (by decide) dX7_part_190 ?_
                  refine J_icmp_ne (pc := 192) hX (tgt := 204) (by decide) dX7_part_192 (fun h24 => ?_) (fun h24 => ?_)
                  · refine J_aload_n (pc := 204) hX 0 rfl dX7_part_204 ?_
                    refine J_iload_n (pc := 205) hX 3 rfl dX7_part_205 ?_
                    refine J_iload (pc := 206) hX 4 rfl dX7_part_206 ?_
                    refine J_call2 (fun y25 I26 e27 => ?_)
                    refine jrun_i (pc := 208) (jRunV hX s_X7_144 (ci := 7) (T := TX7) (N := 20) (As := [ji y9, ji v12]) (rest := []) rfl (by decide) (C_X7_writes Y hz0 t0 ht0 y9 v12 I13 L0 y25 I26 e27) ht0 rfl rfl ⟨by decide, by decide⟩ ⟨Nat.le_of_ble_eq_true rfl, Nat.le_of_ble_eq_true rfl⟩ (Nat.le_of_ble_eq_true rfl) dX7_part_208) ?_
                    refine J_pop (pc := 211) hX rfl dX7_part_211 ?_
                    refine J_sub [0, 2] rfl ?_
                    exact hk18 I26
                  · refine J_aload_n (pc := 195) hX 0 rfl dX7_part_195 ?_
                    refine J_iload_n (pc := 196) hX 3 rfl dX7_part_196 ?_
                    refine J_call2 (fun y28 I29 e30 => ?_)
                    refine jrun_i (pc := 197) (jRunV hX s_X7_141 (ci := 7) (T := TX7) (N := 20) (As := [ji y9]) (rest := []) rfl (by decide) (C_X7_reads Y hz0 t0 ht0 y9 I13 L0 y28 I29 e30) ht0 rfl rfl ⟨by decide, by decide⟩ ⟨Nat.le_of_ble_eq_true rfl, Nat.le_of_ble_eq_true rfl⟩ (Nat.le_of_ble_eq_true rfl) dX7_part_197) ?_
                    refine J_pop (pc := 200) hX rfl dX7_part_200 ?_
                    refine J_goto (pc := 201) hX (tgt := 212) (by decide) dX7_part_201 ?_
                    refine J_sub [0, 2] rfl ?_
                    exact hk18 I29
                · refine J_aload_n (pc := 177) hX 0 rfl dX7_part_177 ?_
                  refine g_X7_7 (pc := 178) hX ht0 dX7_part_178 ?_
                  refine J_sipush (pc := 181) hX (v := (691 : Int32)) (by decide) dX7_part_181 ?_
                  refine J_iload_n (pc := 184) hX 3 rfl dX7_part_184 ?_
                  refine J_iast (pc := 185) hX (N := 784) (fs_7_0 t0 ht0) (by decide) dX7_part_185 (fun h31 I32 => ?_)
                  refine J_goto (pc := 186) hX (tgt := 212) (by decide) dX7_part_186 ?_
                  refine J_sub [0, 2] rfl ?_
                  exact hk18 I32
              · refine J_aload_n (pc := 160) hX 0 rfl dX7_part_160 ?_
                refine J_iload_n (pc := 161) hX 3 rfl dX7_part_161 ?_
                refine J_iconst (pc := 162) hX (v := (1 : Int32)) (by decide) dX7_part_162 ?_
                refine J_isub (pc := 163) hX dX7_part_163 ?_
                refine J_call2 (fun y33 I34 e35 => ?_)
                refine jrun_i (pc := 164) (jRunV hX s_X7_116 (ci := 7) (T := TX7) (N := 20) (As := [ji (y9 - (1 : Int32))]) (rest := []) rfl (by decide) (C_X7_sweeps Y hz0 t0 ht0 (y9 - (1 : Int32)) I13 L0 y33 I34 e35) ht0 rfl rfl ⟨by decide, by decide⟩ ⟨Nat.le_of_ble_eq_true rfl, Nat.le_of_ble_eq_true rfl⟩ (Nat.le_of_ble_eq_true rfl) dX7_part_164) ?_
                refine J_pop (pc := 167) hX rfl dX7_part_167 ?_
                refine J_goto (pc := 168) hX (tgt := 212) (by decide) dX7_part_168 ?_
                refine J_sub [0, 2] rfl ?_
                exact hk18 I34
            · refine J_iconst (pc := 152) hX (v := (0 : Int32)) (by decide) dX7_part_152 ?_
              exact J_iret (pc := 153) hX (hQ _) dX7_part_153
        refine J_icmp_ne (pc := 101) hX (tgt := 141) (by decide) dX7_part_101 (fun h36 => ?_) (fun h36 => ?_)
        · refine J_sub [2, 3, 4, 1, 0] rfl ?_
          exact hk14 (0 : Int32) I10
        · refine J_aload_n (pc := 104) hX 2 rfl dX7_part_104 ?_
          refine J_call1 (fun y37 e38 => ?_)
          refine jrun_i (pc := 105) (jRunV hX s_X7_165 (ci := 7) (T := TX7) (N := 20) (As := []) (rest := []) rfl (by decide) (C_X7_peek Y hz0 t0 ht0 I10 L0 y37 e38) ht0 rfl rfl ⟨by decide, by decide⟩ ⟨Nat.le_of_ble_eq_true rfl, Nat.le_of_ble_eq_true rfl⟩ (Nat.le_of_ble_eq_true rfl) dX7_part_105) ?_
          refine J_bipush (pc := 108) hX (v := (61 : Int32)) (by decide) dX7_part_108 ?_
          refine J_join (fun (k40 : jI → Option (Int32 × jI)) => ∀ (I39 : jI), J Y Z 5 Qf (k40 I39) 121 [(0, jr t0), (1, ji p0), (2, ji y1), (3, ji y9)] [] 0 0 NC shC rfC I39 L0) ?_ (fun k40 hk40 => ?_)
          · intro I39
            try dsimp only
            refine J_aload_n (pc := 121) hX 0 rfl dX7_part_121 ?_
            refine J_dup (pc := 122) hX rfl dX7_part_122 ?_
            refine g_X7_159 (pc := 123) hX ht0 dX7_part_123 ?_
            refine J_iconst (pc := 126) hX (v := (1 : Int32)) (by decide) dX7_part_126 ?_
            refine J_iadd (pc := 127) hX dX7_part_127 ?_
            refine p_X7_159 (pc := 128) hX ht0 dX7_part_128 (fun I41 => ?_)
            refine J_aload_n (pc := 131) hX 0 rfl dX7_part_131 ?_
            refine J_iconst (pc := 132) hX (v := (0 : Int32)) (by decide) dX7_part_132 ?_
            refine J_sipush (pc := 133) hX (v := (999 : Int32)) (by decide) dX7_part_133 ?_
            refine J_call2 (fun y42 I43 e44 => ?_)
            refine jrun_i (pc := 136) (jRunV hX s_X7_176 (ci := 7) (T := TX7) (N := 20) (As := [ji (0 : Int32), ji (999 : Int32)]) (rest := []) rfl (by decide) (C_X7_number Y hz0 t0 ht0 (0 : Int32) (999 : Int32) I41 L0 y42 I43 e44) ht0 rfl rfl ⟨by decide, by decide⟩ ⟨Nat.le_of_ble_eq_true rfl, Nat.le_of_ble_eq_true rfl⟩ (Nat.le_of_ble_eq_true rfl) dX7_part_136) ?_
            refine J_istore (pc := 139) hX (lo' := [(4, ji y42), (0, jr t0), (1, ji p0), (2, ji y1), (3, ji y9)]) (by decide) rfl dX7_part_139 ?_
            refine J_sub [1, 2, 3, 4, 0] rfl ?_
            exact hk14 y42 I43
          refine J_icmp_eq (pc := 110) hX (tgt := 121) (by decide) dX7_part_110 (fun h45 => ?_) (fun h45 => ?_)
          · refine J_sub [2, 3, 4, 1] rfl ?_
            exact hk40 I10
          · refine J_aload_n (pc := 113) hX 2 rfl dX7_part_113 ?_
            refine J_aload_n (pc := 114) hX 2 rfl dX7_part_114 ?_
            refine g_X7_159 (pc := 115) hX ht0 dX7_part_115 ?_
            refine J_call1 (fun I46 e47 => ?_)
            refine jrun_v (pc := 118) (jRunV hX s_X7_172 (ci := 7) (T := TX7) (N := 20) (As := [ji (I10 t0 9)]) (rest := []) rfl (by decide) (C_X7_wrong Y hz0 t0 ht0 (I10 t0 9) I10 L0 I46 e47) ht0 rfl rfl ⟨by decide, by decide⟩ ⟨Nat.le_of_ble_eq_true rfl, Nat.le_of_ble_eq_true rfl⟩ (Nat.le_of_ble_eq_true rfl) dX7_part_118) ?_
            refine J_sub [2, 3, 4, 1] rfl ?_
            exact hk40 I46
      refine J_icmp_ne (pc := 64) hX (tgt := 78) (by decide) dX7_part_64 (fun h48 => ?_) (fun h48 => ?_)
      · refine J_iload_n (pc := 78) hX 2 rfl dX7_part_78 ?_
        refine J_bipush (pc := 79) hX (v := (97 : Int32)) (by decide) dX7_part_79 ?_
        refine J_icmp_ne (pc := 81) hX (tgt := 89) (by decide) dX7_part_81 (fun h49 => ?_) (fun h49 => ?_)
        · refine J_bipush (pc := 89) hX (v := (63 : Int32)) (by decide) dX7_part_89 ?_
          exact hk8 (63 : Int32)
        · refine J_bipush (pc := 84) hX (v := (8 : Int32)) (by decide) dX7_part_84 ?_
          refine J_goto (pc := 86) hX (tgt := 91) (by decide) dX7_part_86 ?_
          exact hk8 (8 : Int32)
      · refine J_aload_n (pc := 67) hX 0 rfl dX7_part_67 ?_
        refine g_X7_7 (pc := 68) hX ht0 dX7_part_68 ?_
        refine J_sipush (pc := 71) hX (v := (688 : Int32)) (by decide) dX7_part_71 ?_
        refine J_iald (pc := 74) hX (N := 784) (fs_7_0 t0 ht0) (by decide) dX7_part_74 (fun h50 => ?_)
        refine J_goto (pc := 75) hX (tgt := 91) (by decide) dX7_part_75 ?_
        exact hk8 (I4 (rfC t0 0) ((688 : Int32)).toNatClampNeg)
    try dsimp only at hj
    refine J_icmp_neV (pc := 53) hX (tgt := 60) (by decide) dX7_part_53 (fun h5 => ?_) (fun h5 => ?_)
    · refine J_iconst (pc := 60) hX (v := (0 : Int32)) (by decide) dX7_part_60 ?_
      exact hj _
    · refine J_iconst (pc := 56) hX (v := (1 : Int32)) (by decide) dX7_part_56 ?_
      refine J_goto (pc := 57) hX (tgt := 61) (by decide) dX7_part_57 ?_
      exact hj _
  refine J_icmp_eq (pc := 8) hX (tgt := 39) (by decide) dX7_part_8 (fun h51 => ?_) (fun h51 => ?_)
  · refine J_sub [1, 2, 0] rfl ?_
    exact hk3
  · refine J_iload_n (pc := 11) hX 0 rfl dX7_part_11 ?_
    refine J_bipush (pc := 12) hX (v := (119 : Int32)) (by decide) dX7_part_12 ?_
    refine J_icmp_eq (pc := 14) hX (tgt := 39) (by decide) dX7_part_14 (fun h52 => ?_) (fun h52 => ?_)
    · refine J_sub [1, 2, 0] rfl ?_
      exact hk3
    · refine J_iload_n (pc := 17) hX 0 rfl dX7_part_17 ?_
      refine J_bipush (pc := 18) hX (v := (115 : Int32)) (by decide) dX7_part_18 ?_
      refine J_icmp_eq (pc := 20) hX (tgt := 39) (by decide) dX7_part_20 (fun h53 => ?_) (fun h53 => ?_)
      · refine J_sub [1, 2, 0] rfl ?_
        exact hk3
      · refine J_iload_n (pc := 23) hX 0 rfl dX7_part_23 ?_
        refine J_bipush (pc := 24) hX (v := (97 : Int32)) (by decide) dX7_part_24 ?_
        refine J_icmp_eq (pc := 26) hX (tgt := 39) (by decide) dX7_part_26 (fun h54 => ?_) (fun h54 => ?_)
        · refine J_sub [1, 2, 0] rfl ?_
          exact hk3
        · refine J_aload_n (pc := 29) hX 1 rfl dX7_part_29 ?_
          refine J_aload_n (pc := 30) hX 1 rfl dX7_part_30 ?_
          refine g_X7_159 (pc := 31) hX ht0 dX7_part_31 ?_
          refine J_call1 (fun I55 e56 => ?_)
          refine jrun_v (pc := 34) (jRunV hX s_X7_172 (ci := 7) (T := TX7) (N := 20) (As := [ji (I0 t0 9)]) (rest := []) rfl (by decide) (C_X7_wrong Y hz0 t0 ht0 (I0 t0 9) I0 L0 I55 e56) ht0 rfl rfl ⟨by decide, by decide⟩ ⟨Nat.le_of_ble_eq_true rfl, Nat.le_of_ble_eq_true rfl⟩ (Nat.le_of_ble_eq_true rfl) dX7_part_34) ?_
          refine J_iconst (pc := 37) hX (v := (0 : Int32)) (by decide) dX7_part_37 ?_
          exact J_iret (pc := 38) hX (hQ _) dX7_part_38
theorem C_X7_part (Y : jY) (hz0 : Y.zf = false) (t0 : Nat) (ht0 : shC t0 = 8) (p0 : Int32) (I0 : jI) (L0 : jL) (r : Int32) (I1 : jI) (h : X7_part t0 p0 I0 = some (r, I1)) : jMet Y yX7_part cX7_part 5 (some .int) 48 2250 0 0 [jr t0, ji p0] NC shC rfC I0 L0 (some (ji r)) NC shC rfC I1 L0 :=
  jmet_of _ _ h (fun Z r => jQ Y Z 0 0 (some (ji r.1)) NC shC rfC r.2 L0) (fun _ => rfl) (by decide) (Nat.le_of_ble_eq_true rfl) (fun Z hX => W_X7_part hz0 t0 ht0 p0 I0 L0 hX (fun _ => rfl))
def X7_parts_F1 (t0 : Nat) (p0 : Int32) (k8 : Int32 → jI → Option (Int32 × jI)) (g15 : Int32 → Int32 → jI → Option (Int32 × jI)) : Int32 → Int32 → jI → Option (Int32 × jI) := fun (v12 : Int32) (v13 : Int32) (I14 : jI) =>
if 0 ≤ (I14 t0 10) then (
k8 v12 I14)
else (
if (30 : Int32) ≤ v13 then (
k8 v12 I14)
else (
(X7_peek t0 I14).bind (fun (y18 : Int32) =>
if y18 = (32 : Int32) then (
jlet (jup I14 t0 9 ((I14 t0 9) + (1 : Int32))) (fun (I21 : jI) =>
jb2 (X7_part t0 p0 I21) (fun (y22 : Int32) (I23 : jI) =>
jlet ((v12 + y22)) (fun (y25 : Int32) =>
g15 y25 (v13 + (1 : Int32)) I23))))
else (
k8 v12 I14))))
def X7_parts (t0 : Nat) (p0 : Int32) (I0 : jI) : Option (Int32 × jI) :=
jlet (jup I0 t0 9 (0 : Int32)) (fun (I1 : jI) =>
jlet (jup I1 t0 10 (-1 : Int32)) (fun (I2 : jI) =>
jb2 (X7_part t0 p0 I2) (fun (y3 : Int32) (I4 : jI) =>
jlet (fun (v6 : Int32) (I7 : jI) =>
if (I7 t0 8) ≤ (I7 t0 9) then (
some (v6, I7))
else (
(X7_wrong t0 (I7 t0 9) I7).bind (fun (I10 : jI) =>
some (v6, I10)))) (fun (k8 : Int32 → jI → Option (Int32 × jI)) =>
jfx (X7_parts_F1 t0 p0 k8) (fun _ _ _ => none) 1000 y3 (1 : Int32) I4))))
set_option maxRecDepth 20000 in
set_option maxHeartbeats 4000000 in
theorem W_X7_parts {Y : jY} {Z : jZ} {Qf : Int32 × jI → State → Prop} (hz0 : Y.zf = false) (t0 : Nat) (ht0 : shC t0 = 8) (p0 : Int32) (I0 : jI) (L0 : jL) (hX : jOK Y Z RX7 cX7_parts 4 "parts" (some .int) 49 2274 0 0) (hQ : ∀ r : Int32 × jI, Qf r = jQ Y Z 0 0 (some (ji r.1)) NC shC rfC r.2 L0) : J Y Z 4 Qf (X7_parts t0 p0 I0) 0 [(0, jr t0), (1, ji p0)] [] 0 0 NC shC rfC I0 L0 := by
  unfold X7_parts
  refine J_aload_n (pc := 0) hX 0 rfl dX7_parts_0 ?_
  refine J_iconst (pc := 1) hX (v := (0 : Int32)) (by decide) dX7_parts_1 ?_
  refine p_X7_159 (pc := 2) hX ht0 dX7_parts_2 (fun I1 => ?_)
  refine J_aload_n (pc := 5) hX 0 rfl dX7_parts_5 ?_
  refine J_iconst (pc := 6) hX (v := (-1 : Int32)) (by decide) dX7_parts_6 ?_
  refine p_X7_162 (pc := 7) hX ht0 dX7_parts_7 (fun I2 => ?_)
  refine J_aload_n (pc := 10) hX 0 rfl dX7_parts_10 ?_
  refine J_iload_n (pc := 11) hX 1 rfl dX7_parts_11 ?_
  refine J_call2 (fun y3 I4 e5 => ?_)
  refine jrun_i (pc := 12) (jRunV hX s_X7_179 (ci := 7) (T := TX7) (N := 20) (As := [ji p0]) (rest := []) rfl (by decide) (C_X7_part Y hz0 t0 ht0 p0 I2 L0 y3 I4 e5) ht0 rfl rfl ⟨by decide, by decide⟩ ⟨Nat.le_of_ble_eq_true rfl, Nat.le_of_ble_eq_true rfl⟩ (Nat.le_of_ble_eq_true rfl) dX7_parts_12) ?_
  refine J_istore_n (pc := 15) hX (lo' := [(2, ji y3), (0, jr t0), (1, ji p0)]) (by decide) rfl dX7_parts_15 ?_
  refine J_iconst (pc := 16) hX (v := (1 : Int32)) (by decide) dX7_parts_16 ?_
  refine J_istore_n (pc := 17) hX (lo' := [(3, ji (1 : Int32)), (2, ji y3), (0, jr t0), (1, ji p0)]) (by decide) rfl dX7_parts_17 ?_
  refine J_join (fun (k8 : Int32 → jI → Option (Int32 × jI)) => ∀ (v6 : Int32) (I7 : jI), J Y Z 4 Qf (k8 v6 I7) 64 [(0, jr t0), (2, ji v6)] [] 0 0 NC shC rfC I7 L0) ?_ (fun k8 hk8 => ?_)
  · intro v6 I7
    try dsimp only
    refine J_aload_n (pc := 64) hX 0 rfl dX7_parts_64 ?_
    refine g_X7_159 (pc := 65) hX ht0 dX7_parts_65 ?_
    refine J_aload_n (pc := 68) hX 0 rfl dX7_parts_68 ?_
    refine g_X7_156 (pc := 69) hX ht0 dX7_parts_69 ?_
    refine J_icmp_ge (pc := 72) hX (tgt := 83) (by decide) dX7_parts_72 (fun h9 => ?_) (fun h9 => ?_)
    · refine J_iload_n (pc := 83) hX 1 rfl dX7_parts_83 ?_
      exact J_iret (pc := 84) hX (hQ _) dX7_parts_84
    · refine J_aload_n (pc := 75) hX 0 rfl dX7_parts_75 ?_
      refine J_aload_n (pc := 76) hX 0 rfl dX7_parts_76 ?_
      refine g_X7_159 (pc := 77) hX ht0 dX7_parts_77 ?_
      refine J_call1 (fun I10 e11 => ?_)
      refine jrun_v (pc := 80) (jRunV hX s_X7_172 (ci := 7) (T := TX7) (N := 20) (As := [ji (I7 t0 9)]) (rest := []) rfl (by decide) (C_X7_wrong Y hz0 t0 ht0 (I7 t0 9) I7 L0 I10 e11) ht0 rfl rfl ⟨by decide, by decide⟩ ⟨Nat.le_of_ble_eq_true rfl, Nat.le_of_ble_eq_true rfl⟩ (Nat.le_of_ble_eq_true rfl) dX7_parts_80) ?_
      refine J_iload_n (pc := 83) hX 1 rfl dX7_parts_83 ?_
      exact J_iret (pc := 84) hX (hQ _) dX7_parts_84
  have lhg15 : ∀ mq : Nat, ∀ (v12 : Int32) (v13 : Int32) (I14 : jI), J Y Z 4 Qf (jfx (X7_parts_F1 t0 p0 k8) (fun _ _ _ => none) mq v12 v13 I14) 18 [(0, jr t0), (1, ji p0), (2, ji v12), (3, ji v13)] [] 0 0 NC shC rfC I14 L0 := by
    intro mq
    refine jfx_J (fun (_ : Nat) (g15 : Int32 → Int32 → jI → Option (Int32 × jI)) => ∀ (v12 : Int32) (v13 : Int32) (I14 : jI), J Y Z 4 Qf (g15 v12 v13 I14) 18 [(0, jr t0), (1, ji p0), (2, ji v12), (3, ji v13)] [] 0 0 NC shC rfC I14 L0) ?_ (fun _ g15 hg15 => ?_) mq
    · intro v12 v13 I14
      exact J_none
    intro v12 v13 I14
    unfold X7_parts_F1
    try dsimp only
    refine J_aload_n (pc := 18) hX 0 rfl dX7_parts_18 ?_
    refine g_X7_162 (pc := 19) hX ht0 dX7_parts_19 ?_
    refine J_if_ge (pc := 22) hX (tgt := 64) (by decide) dX7_parts_22 (fun h16 => ?_) (fun h16 => ?_)
    · refine J_sub [0, 2] rfl ?_
      exact hk8 v12 I14
    · refine J_iload_n (pc := 25) hX 3 rfl dX7_parts_25 ?_
      refine J_bipush (pc := 26) hX (v := (30 : Int32)) (by decide) dX7_parts_26 ?_
      refine J_icmp_ge (pc := 28) hX (tgt := 64) (by decide) dX7_parts_28 (fun h17 => ?_) (fun h17 => ?_)
      · refine J_sub [0, 2] rfl ?_
        exact hk8 v12 I14
      · refine J_aload_n (pc := 31) hX 0 rfl dX7_parts_31 ?_
        refine J_call1 (fun y18 e19 => ?_)
        refine jrun_i (pc := 32) (jRunV hX s_X7_165 (ci := 7) (T := TX7) (N := 20) (As := []) (rest := []) rfl (by decide) (C_X7_peek Y hz0 t0 ht0 I14 L0 y18 e19) ht0 rfl rfl ⟨by decide, by decide⟩ ⟨Nat.le_of_ble_eq_true rfl, Nat.le_of_ble_eq_true rfl⟩ (Nat.le_of_ble_eq_true rfl) dX7_parts_32) ?_
        refine J_bipush (pc := 35) hX (v := (32 : Int32)) (by decide) dX7_parts_35 ?_
        refine J_icmp_ne (pc := 37) hX (tgt := 64) (by decide) dX7_parts_37 (fun h20 => ?_) (fun h20 => ?_)
        · refine J_sub [0, 2] rfl ?_
          exact hk8 v12 I14
        · refine J_aload_n (pc := 40) hX 0 rfl dX7_parts_40 ?_
          refine J_dup (pc := 41) hX rfl dX7_parts_41 ?_
          refine g_X7_159 (pc := 42) hX ht0 dX7_parts_42 ?_
          refine J_iconst (pc := 45) hX (v := (1 : Int32)) (by decide) dX7_parts_45 ?_
          refine J_iadd (pc := 46) hX dX7_parts_46 ?_
          refine p_X7_159 (pc := 47) hX ht0 dX7_parts_47 (fun I21 => ?_)
          refine J_iload_n (pc := 50) hX 2 rfl dX7_parts_50 ?_
          refine J_aload_n (pc := 51) hX 0 rfl dX7_parts_51 ?_
          refine J_iload_n (pc := 52) hX 1 rfl dX7_parts_52 ?_
          refine J_call2 (fun y22 I23 e24 => ?_)
          refine jrun_i (pc := 53) (jRunV hX s_X7_179 (ci := 7) (T := TX7) (N := 20) (As := [ji p0]) (rest := [ji v12]) rfl (by decide) (C_X7_part Y hz0 t0 ht0 p0 I21 L0 y22 I23 e24) ht0 rfl rfl ⟨by decide, by decide⟩ ⟨Nat.le_of_ble_eq_true rfl, Nat.le_of_ble_eq_true rfl⟩ (Nat.le_of_ble_eq_true rfl) dX7_parts_53) ?_
          refine J_iadd (pc := 56) hX dX7_parts_56 ?_
          refine J_leti (fun y25 => ?_)
          refine J_istore_n (pc := 57) hX (lo' := [(2, ji y25), (0, jr t0), (1, ji p0), (3, ji v13)]) (by decide) rfl dX7_parts_57 ?_
          refine J_iinc (pc := 58) hX (v := (v13 + (1 : Int32))) (lo' := [(3, ji (v13 + (1 : Int32))), (2, ji y25), (0, jr t0), (1, ji p0)]) 3 rfl (by rfl) (by decide) rfl dX7_parts_58 ?_
          refine J_goto (pc := 61) hX (tgt := 18) (by decide) dX7_parts_61 ?_
          refine J_sub [2, 3, 1, 0] rfl ?_
          exact hg15 y25 (v13 + (1 : Int32)) I23
  refine J_sub [2, 3, 1, 0] rfl ?_
  exact lhg15 1000 y3 (1 : Int32) I4
theorem C_X7_parts (Y : jY) (hz0 : Y.zf = false) (t0 : Nat) (ht0 : shC t0 = 8) (p0 : Int32) (I0 : jI) (L0 : jL) (r : Int32) (I1 : jI) (h : X7_parts t0 p0 I0 = some (r, I1)) : jMet Y yX7_parts cX7_parts 4 (some .int) 49 2274 0 0 [jr t0, ji p0] NC shC rfC I0 L0 (some (ji r)) NC shC rfC I1 L0 :=
  jmet_of _ _ h (fun Z r => jQ Y Z 0 0 (some (ji r.1)) NC shC rfC r.2 L0) (fun _ => rfl) (by decide) (Nat.le_of_ble_eq_true rfl) (fun Z hX => W_X7_parts hz0 t0 ht0 p0 I0 L0 hX (fun _ => rfl))
def X7_traffic (t0 : Nat) (I0 : jI) : Option (Int32 × jI) :=
jb2 (X7_parts t0 (0 : Int32) I0) (fun (y1 : Int32) (I2 : jI) =>
if (I2 t0 10) < 0 then (
jb2 (X7_parts t0 (1 : Int32) I2) (fun (y5 : Int32) (I6 : jI) =>
jlet (jup I6 t0 8 (0 : Int32)) (fun (I8 : jI) =>
some (y5, I8))))
else (
jlet (jup I2 t0 8 (0 : Int32)) (fun (I9 : jI) =>
jb2 (X7_refuses t0 (-52 : Int32) I9) (fun (y10 : Int32) (I11 : jI) =>
some (((-800 : Int32) - (I11 t0 10)), I11)))))
set_option maxRecDepth 20000 in
set_option maxHeartbeats 4000000 in
theorem W_X7_traffic {Y : jY} {Z : jZ} {Qf : Int32 × jI → State → Prop} (hz0 : Y.zf = false) (t0 : Nat) (ht0 : shC t0 = 8) (I0 : jI) (L0 : jL) (hX : jOK Y Z RX7 cX7_traffic 2 "traffic" (some .int) 50 2297 0 0) (hQ : ∀ r : Int32 × jI, Qf r = jQ Y Z 0 0 (some (ji r.1)) NC shC rfC r.2 L0) : J Y Z 2 Qf (X7_traffic t0 I0) 0 [(0, jr t0)] [] 0 0 NC shC rfC I0 L0 := by
  unfold X7_traffic
  refine J_aload_n (pc := 0) hX 0 rfl dX7_traffic_0 ?_
  refine J_iconst (pc := 1) hX (v := (0 : Int32)) (by decide) dX7_traffic_1 ?_
  refine J_call2 (fun y1 I2 e3 => ?_)
  refine jrun_i (pc := 2) (jRunV hX s_X7_183 (ci := 7) (T := TX7) (N := 20) (As := [ji (0 : Int32)]) (rest := []) rfl (by decide) (C_X7_parts Y hz0 t0 ht0 (0 : Int32) I0 L0 y1 I2 e3) ht0 rfl rfl ⟨by decide, by decide⟩ ⟨Nat.le_of_ble_eq_true rfl, Nat.le_of_ble_eq_true rfl⟩ (Nat.le_of_ble_eq_true rfl) dX7_traffic_2) ?_
  refine J_pop (pc := 5) hX rfl dX7_traffic_5 ?_
  refine J_aload_n (pc := 6) hX 0 rfl dX7_traffic_6 ?_
  refine g_X7_162 (pc := 7) hX ht0 dX7_traffic_7 ?_
  refine J_if_lt (pc := 10) hX (tgt := 34) (by decide) dX7_traffic_10 (fun h4 => ?_) (fun h4 => ?_)
  · refine J_aload_n (pc := 34) hX 0 rfl dX7_traffic_34 ?_
    refine J_iconst (pc := 35) hX (v := (1 : Int32)) (by decide) dX7_traffic_35 ?_
    refine J_call2 (fun y5 I6 e7 => ?_)
    refine jrun_i (pc := 36) (jRunV hX s_X7_183 (ci := 7) (T := TX7) (N := 20) (As := [ji (1 : Int32)]) (rest := []) rfl (by decide) (C_X7_parts Y hz0 t0 ht0 (1 : Int32) I2 L0 y5 I6 e7) ht0 rfl rfl ⟨by decide, by decide⟩ ⟨Nat.le_of_ble_eq_true rfl, Nat.le_of_ble_eq_true rfl⟩ (Nat.le_of_ble_eq_true rfl) dX7_traffic_36) ?_
    refine J_istore_n (pc := 39) hX (lo' := [(1, ji y5), (0, jr t0)]) (by decide) rfl dX7_traffic_39 ?_
    refine J_aload_n (pc := 40) hX 1 rfl dX7_traffic_40 ?_
    refine J_iconst (pc := 41) hX (v := (0 : Int32)) (by decide) dX7_traffic_41 ?_
    refine p_X7_156 (pc := 42) hX ht0 dX7_traffic_42 (fun I8 => ?_)
    refine J_iload_n (pc := 45) hX 0 rfl dX7_traffic_45 ?_
    exact J_iret (pc := 46) hX (hQ _) dX7_traffic_46
  · refine J_aload_n (pc := 13) hX 0 rfl dX7_traffic_13 ?_
    refine J_iconst (pc := 14) hX (v := (0 : Int32)) (by decide) dX7_traffic_14 ?_
    refine p_X7_156 (pc := 15) hX ht0 dX7_traffic_15 (fun I9 => ?_)
    refine J_aload_n (pc := 18) hX 0 rfl dX7_traffic_18 ?_
    refine J_bipush (pc := 19) hX (v := (-52 : Int32)) (by decide) dX7_traffic_19 ?_
    refine J_call2 (fun y10 I11 e12 => ?_)
    refine jrun_i (pc := 21) (jRunV hX s_X7_127 (ci := 7) (T := TX7) (N := 20) (As := [ji (-52 : Int32)]) (rest := []) rfl (by decide) (C_X7_refuses Y hz0 t0 ht0 (-52 : Int32) I9 L0 y10 I11 e12) ht0 rfl rfl ⟨by decide, by decide⟩ ⟨Nat.le_of_ble_eq_true rfl, Nat.le_of_ble_eq_true rfl⟩ (Nat.le_of_ble_eq_true rfl) dX7_traffic_21) ?_
    refine J_pop (pc := 24) hX rfl dX7_traffic_24 ?_
    refine J_sipush (pc := 25) hX (v := (-800 : Int32)) (by decide) dX7_traffic_25 ?_
    refine J_aload_n (pc := 28) hX 0 rfl dX7_traffic_28 ?_
    refine g_X7_162 (pc := 29) hX ht0 dX7_traffic_29 ?_
    refine J_isub (pc := 32) hX dX7_traffic_32 ?_
    exact J_iret (pc := 33) hX (hQ _) dX7_traffic_33
theorem C_X7_traffic (Y : jY) (hz0 : Y.zf = false) (t0 : Nat) (ht0 : shC t0 = 8) (I0 : jI) (L0 : jL) (r : Int32) (I1 : jI) (h : X7_traffic t0 I0 = some (r, I1)) : jMet Y yX7_traffic cX7_traffic 2 (some .int) 50 2297 0 0 [jr t0] NC shC rfC I0 L0 (some (ji r)) NC shC rfC I1 L0 :=
  jmet_of _ _ h (fun Z r => jQ Y Z 0 0 (some (ji r.1)) NC shC rfC r.2 L0) (fun _ => rfl) (by decide) (Nat.le_of_ble_eq_true rfl) (fun Z hX => W_X7_traffic hz0 t0 ht0 I0 L0 hX (fun _ => rfl))
def X7_isShelf (p0 : Int32) : Option (Int32) :=
(X7_isIn ((p0).toInt64) (0 : Int64) (7 : Int64)).bind (fun (y1 : Int32) =>
if y1 = 0 ∨ y1 = 1 then some y1 else none)
set_option maxRecDepth 20000 in
set_option maxHeartbeats 4000000 in
theorem W_X7_isShelf {Y : jY} {Z : jZ} {Qf : Int32 → State → Prop} (hz0 : Y.zf = false) (p0 : Int32) (I0 : jI) (L0 : jL) (hX : jOK Y Z RX7 cX7_isShelf 1 "isShelf" (some .boolean) 2 105 0 0) (hQ : ∀ r : Int32, Qf r = jQ Y Z 0 0 (some (ji r)) NC shC rfC I0 L0) : J Y Z 1 Qf (X7_isShelf p0) 0 [(0, ji p0)] [] 0 0 NC shC rfC I0 L0 := by
  unfold X7_isShelf
  refine J_iload_n (pc := 0) hX 0 rfl dX7_isShelf_0 ?_
  refine J_i2l (pc := 1) hX dX7_isShelf_1 ?_
  refine J_lconst (pc := 2) hX (v := (0 : Int64)) (by decide) dX7_isShelf_2 ?_
  refine J_ldc2 (pc := 3) hX q_X7_186 dX7_isShelf_3 ?_
  refine J_call1 (fun y1 e2 => ?_)
  refine jrun_i (pc := 6) (jRunS hX s_X7_47 (As := [jl ((p0).toInt64), jl (0 : Int64), jl (7 : Int64)]) (rest := []) (C_X7_isIn Y hz0 ((p0).toInt64) (0 : Int64) (7 : Int64) I0 L0 y1 e2) rfl rfl ⟨by decide, by decide⟩ ⟨Nat.le_of_ble_eq_true rfl, Nat.le_of_ble_eq_true rfl⟩ (Nat.le_of_ble_eq_true rfl) dX7_isShelf_6) ?_
  exact J_zretG (pc := 9) hX (hQ _) dX7_isShelf_9
theorem C_X7_isShelf (Y : jY) (hz0 : Y.zf = false) (p0 : Int32) (I0 : jI) (L0 : jL) (r : Int32) (h : X7_isShelf p0 = some r) : jMet Y yX7_isShelf cX7_isShelf 1 (some .boolean) 2 105 0 0 [ji p0] NC shC rfC I0 L0 (some (ji r)) NC shC rfC I0 L0 :=
  jmet_of _ _ h (fun Z r => jQ Y Z 0 0 (some (ji r)) NC shC rfC I0 L0) (fun _ => rfl) (by decide) (Nat.le_of_ble_eq_true rfl) (fun Z hX => W_X7_isShelf hz0 p0 I0 L0 hX (fun _ => rfl))
def X7_row_F1 (t0 : Nat) (p0 : Int32) (I19 : jI) (g22 : Int32 → jL → Option (Int32 × jI × jL)) : Int32 → jL → Option (Int32 × jI × jL) := fun (v20 : Int32) (L21 : jL) =>
if (40 : Int32) ≤ v20 then (
some ((1 : Int32), I19, L21))
else (
if jin (((40 : Int32) * p0) + v20) 320 then jlet (jup L21 (rfC t0 13) ((((40 : Int32) * p0) + v20)).toNatClampNeg (0 : Int64)) (fun (L25 : jL) =>
g22 (v20 + (1 : Int32)) L25) else none)
def X7_row (t0 : Nat) (p0 : Int32) (p1 : Int32) (p2 : Int32) (I0 : jI) (L0 : jL) : Option (Int32 × jI × jL) :=
(X7_isShelf p0).bind (fun (y1 : Int32) =>
if y1 = 0 then (
jb2 (X7_refuses t0 (-52 : Int32) I0) (fun (y4 : Int32) (I5 : jI) =>
some (y4, I5, L0)))
else (
(X7_isIn ((p1).toInt64) (0 : Int64) (4 : Int64)).bind (fun (y7 : Int32) =>
if y7 = 0 then (
jb2 (X7_refuses t0 (-52 : Int32) I0) (fun (y10 : Int32) (I11 : jI) =>
some (y10, I11, L0)))
else (
(X7_isIn ((p2).toInt64) (0 : Int64) (40 : Int64)).bind (fun (y13 : Int32) =>
if y13 = 0 then (
jb2 (X7_refuses t0 (-52 : Int32) I0) (fun (y26 : Int32) (I27 : jI) =>
some (y26, I27, L0)))
else (
if jin p0 8 then jlet (jup I0 (rfC t0 11) (p0).toNatClampNeg p1) (fun (I17 : jI) =>
if jin p0 8 then jlet (jup I17 (rfC t0 12) (p0).toNatClampNeg p2) (fun (I19 : jI) =>
jfx (X7_row_F1 t0 p0 I19) (fun _ _ => none) 1000 (0 : Int32) L0) else none) else none))))))
set_option maxRecDepth 20000 in
set_option maxHeartbeats 4000000 in
theorem W_X7_row {Y : jY} {Z : jZ} {Qf : Int32 × jI × jL → State → Prop} (hz0 : Y.zf = false) (t0 : Nat) (ht0 : shC t0 = 8) (p0 : Int32) (p1 : Int32) (p2 : Int32) (I0 : jI) (L0 : jL) (hX : jOK Y Z RX7 cX7_row 5 "row" (some .int) 3 125 0 0) (hQ : ∀ r : Int32 × jI × jL, Qf r = jQ Y Z 0 0 (some (ji r.1)) NC shC rfC r.2.1 r.2.2) : J Y Z 5 Qf (X7_row t0 p0 p1 p2 I0 L0) 0 [(0, jr t0), (1, ji p0), (2, ji p1), (3, ji p2)] [] 0 0 NC shC rfC I0 L0 := by
  unfold X7_row
  refine J_iload_n (pc := 0) hX 1 rfl dX7_row_0 ?_
  refine J_call1 (fun y1 e2 => ?_)
  refine jrun_i (pc := 1) (jRunS hX s_X7_188 (As := [ji p0]) (rest := []) (C_X7_isShelf Y hz0 p0 I0 L0 y1 e2) rfl rfl ⟨by decide, by decide⟩ ⟨Nat.le_of_ble_eq_true rfl, Nat.le_of_ble_eq_true rfl⟩ (Nat.le_of_ble_eq_true rfl) dX7_row_1) ?_
  refine J_if_eq (pc := 4) hX (tgt := 31) (by decide) dX7_row_4 (fun h3 => ?_) (fun h3 => ?_)
  · refine J_aload_n (pc := 31) hX 0 rfl dX7_row_31 ?_
    refine J_bipush (pc := 32) hX (v := (-52 : Int32)) (by decide) dX7_row_32 ?_
    refine J_call2 (fun y4 I5 e6 => ?_)
    refine jrun_i (pc := 34) (jRunV hX s_X7_127 (ci := 7) (T := TX7) (N := 20) (As := [ji (-52 : Int32)]) (rest := []) rfl (by decide) (C_X7_refuses Y hz0 t0 ht0 (-52 : Int32) I0 L0 y4 I5 e6) ht0 rfl rfl ⟨by decide, by decide⟩ ⟨Nat.le_of_ble_eq_true rfl, Nat.le_of_ble_eq_true rfl⟩ (Nat.le_of_ble_eq_true rfl) dX7_row_34) ?_
    exact J_iret (pc := 37) hX (hQ _) dX7_row_37
  · refine J_iload_n (pc := 7) hX 2 rfl dX7_row_7 ?_
    refine J_i2l (pc := 8) hX dX7_row_8 ?_
    refine J_lconst (pc := 9) hX (v := (0 : Int64)) (by decide) dX7_row_9 ?_
    refine J_ldc2 (pc := 10) hX q_X7_191 dX7_row_10 ?_
    refine J_call1 (fun y7 e8 => ?_)
    refine jrun_i (pc := 13) (jRunS hX s_X7_47 (As := [jl ((p1).toInt64), jl (0 : Int64), jl (4 : Int64)]) (rest := []) (C_X7_isIn Y hz0 ((p1).toInt64) (0 : Int64) (4 : Int64) I0 L0 y7 e8) rfl rfl ⟨by decide, by decide⟩ ⟨Nat.le_of_ble_eq_true rfl, Nat.le_of_ble_eq_true rfl⟩ (Nat.le_of_ble_eq_true rfl) dX7_row_13) ?_
    refine J_if_eq (pc := 16) hX (tgt := 31) (by decide) dX7_row_16 (fun h9 => ?_) (fun h9 => ?_)
    · refine J_aload_n (pc := 31) hX 0 rfl dX7_row_31 ?_
      refine J_bipush (pc := 32) hX (v := (-52 : Int32)) (by decide) dX7_row_32 ?_
      refine J_call2 (fun y10 I11 e12 => ?_)
      refine jrun_i (pc := 34) (jRunV hX s_X7_127 (ci := 7) (T := TX7) (N := 20) (As := [ji (-52 : Int32)]) (rest := []) rfl (by decide) (C_X7_refuses Y hz0 t0 ht0 (-52 : Int32) I0 L0 y10 I11 e12) ht0 rfl rfl ⟨by decide, by decide⟩ ⟨Nat.le_of_ble_eq_true rfl, Nat.le_of_ble_eq_true rfl⟩ (Nat.le_of_ble_eq_true rfl) dX7_row_34) ?_
      exact J_iret (pc := 37) hX (hQ _) dX7_row_37
    · refine J_iload_n (pc := 19) hX 3 rfl dX7_row_19 ?_
      refine J_i2l (pc := 20) hX dX7_row_20 ?_
      refine J_lconst (pc := 21) hX (v := (0 : Int64)) (by decide) dX7_row_21 ?_
      refine J_ldc2 (pc := 22) hX q_X7_193 dX7_row_22 ?_
      refine J_call1 (fun y13 e14 => ?_)
      refine jrun_i (pc := 25) (jRunS hX s_X7_47 (As := [jl ((p2).toInt64), jl (0 : Int64), jl (40 : Int64)]) (rest := []) (C_X7_isIn Y hz0 ((p2).toInt64) (0 : Int64) (40 : Int64) I0 L0 y13 e14) rfl rfl ⟨by decide, by decide⟩ ⟨Nat.le_of_ble_eq_true rfl, Nat.le_of_ble_eq_true rfl⟩ (Nat.le_of_ble_eq_true rfl) dX7_row_25) ?_
      refine J_if_ne (pc := 28) hX (tgt := 38) (by decide) dX7_row_28 (fun h15 => ?_) (fun h15 => ?_)
      · refine J_aload_n (pc := 38) hX 0 rfl dX7_row_38 ?_
        refine g_X7_25 (pc := 39) hX ht0 dX7_row_39 ?_
        refine J_iload_n (pc := 42) hX 1 rfl dX7_row_42 ?_
        refine J_iload_n (pc := 43) hX 2 rfl dX7_row_43 ?_
        refine J_iast (pc := 44) hX (N := 8) (fs_7_11 t0 ht0) (by decide) dX7_row_44 (fun h16 I17 => ?_)
        refine J_aload_n (pc := 45) hX 0 rfl dX7_row_45 ?_
        refine g_X7_28 (pc := 46) hX ht0 dX7_row_46 ?_
        refine J_iload_n (pc := 49) hX 1 rfl dX7_row_49 ?_
        refine J_iload_n (pc := 50) hX 3 rfl dX7_row_50 ?_
        refine J_iast (pc := 51) hX (N := 8) (fs_7_12 t0 ht0) (by decide) dX7_row_51 (fun h18 I19 => ?_)
        refine J_iconst (pc := 52) hX (v := (0 : Int32)) (by decide) dX7_row_52 ?_
        refine J_istore (pc := 53) hX (lo' := [(4, ji (0 : Int32)), (0, jr t0), (1, ji p0), (2, ji p1), (3, ji p2)]) (by decide) rfl dX7_row_53 ?_
        have lhg22 : ∀ mq : Nat, ∀ (v20 : Int32) (L21 : jL), J Y Z 5 Qf (jfx (X7_row_F1 t0 p0 I19) (fun _ _ => none) mq v20 L21) 55 [(0, jr t0), (1, ji p0), (4, ji v20)] [] 0 0 NC shC rfC I19 L21 := by
          intro mq
          refine jfx_J (fun (_ : Nat) (g22 : Int32 → jL → Option (Int32 × jI × jL)) => ∀ (v20 : Int32) (L21 : jL), J Y Z 5 Qf (g22 v20 L21) 55 [(0, jr t0), (1, ji p0), (4, ji v20)] [] 0 0 NC shC rfC I19 L21) ?_ (fun _ g22 hg22 => ?_) mq
          · intro v20 L21
            exact J_none
          intro v20 L21
          unfold X7_row_F1
          try dsimp only
          refine J_iload (pc := 55) hX 2 rfl dX7_row_55 ?_
          refine J_bipush (pc := 57) hX (v := (40 : Int32)) (by decide) dX7_row_57 ?_
          refine J_icmp_ge (pc := 59) hX (tgt := 81) (by decide) dX7_row_59 (fun h23 => ?_) (fun h23 => ?_)
          · refine J_iconst (pc := 81) hX (v := (1 : Int32)) (by decide) dX7_row_81 ?_
            exact J_iret (pc := 82) hX (hQ _) dX7_row_82
          · refine J_aload_n (pc := 62) hX 0 rfl dX7_row_62 ?_
            refine g_X7_31 (pc := 63) hX ht0 dX7_row_63 ?_
            refine J_bipush (pc := 66) hX (v := (40 : Int32)) (by decide) dX7_row_66 ?_
            refine J_iload_n (pc := 68) hX 1 rfl dX7_row_68 ?_
            refine J_imul (pc := 69) hX dX7_row_69 ?_
            refine J_iload (pc := 70) hX 2 rfl dX7_row_70 ?_
            refine J_iadd (pc := 72) hX dX7_row_72 ?_
            refine J_lconst (pc := 73) hX (v := (0 : Int64)) (by decide) dX7_row_73 ?_
            refine J_last (pc := 74) hX (N := 320) (fs_7_13 t0 ht0) (by decide) dX7_row_74 (fun h24 L25 => ?_)
            refine J_iinc (pc := 75) hX (v := (v20 + (1 : Int32))) (lo' := [(4, ji (v20 + (1 : Int32))), (0, jr t0), (1, ji p0)]) 2 rfl (by rfl) (by decide) rfl dX7_row_75 ?_
            refine J_goto (pc := 78) hX (tgt := 55) (by decide) dX7_row_78 ?_
            refine J_sub [1, 2, 0] rfl ?_
            exact hg22 (v20 + (1 : Int32)) L25
        refine J_sub [1, 2, 0] rfl ?_
        exact lhg22 1000 (0 : Int32) L0
      · refine J_aload_n (pc := 31) hX 0 rfl dX7_row_31 ?_
        refine J_bipush (pc := 32) hX (v := (-52 : Int32)) (by decide) dX7_row_32 ?_
        refine J_call2 (fun y26 I27 e28 => ?_)
        refine jrun_i (pc := 34) (jRunV hX s_X7_127 (ci := 7) (T := TX7) (N := 20) (As := [ji (-52 : Int32)]) (rest := []) rfl (by decide) (C_X7_refuses Y hz0 t0 ht0 (-52 : Int32) I0 L0 y26 I27 e28) ht0 rfl rfl ⟨by decide, by decide⟩ ⟨Nat.le_of_ble_eq_true rfl, Nat.le_of_ble_eq_true rfl⟩ (Nat.le_of_ble_eq_true rfl) dX7_row_34) ?_
        exact J_iret (pc := 37) hX (hQ _) dX7_row_37
theorem C_X7_row (Y : jY) (hz0 : Y.zf = false) (t0 : Nat) (ht0 : shC t0 = 8) (p0 : Int32) (p1 : Int32) (p2 : Int32) (I0 : jI) (L0 : jL) (r : Int32) (I1 : jI) (L1 : jL) (h : X7_row t0 p0 p1 p2 I0 L0 = some (r, I1, L1)) : jMet Y yX7_row cX7_row 5 (some .int) 3 125 0 0 [jr t0, ji p0, ji p1, ji p2] NC shC rfC I0 L0 (some (ji r)) NC shC rfC I1 L1 :=
  jmet_of _ _ h (fun Z r => jQ Y Z 0 0 (some (ji r.1)) NC shC rfC r.2.1 r.2.2) (fun _ => rfl) (by decide) (Nat.le_of_ble_eq_true rfl) (fun Z hX => W_X7_row hz0 t0 ht0 p0 p1 p2 I0 L0 hX (fun _ => rfl))
def X7_amiss (t0 : Nat) (p0 : Int32) (I0 : jI) : Option (Int32) :=
if jin p0 8 then (
if 0 ≤ (I0 (rfC t0 11) (p0).toNatClampNeg) then (
if jin p0 8 then (
if (I0 (rfC t0 11) (p0).toNatClampNeg) ≤ (9 : Int32) then (
some (0 : Int32))
else (
some (-53 : Int32))) else none)
else (
some (-54 : Int32))) else none
set_option maxRecDepth 20000 in
set_option maxHeartbeats 4000000 in
theorem W_X7_amiss {Y : jY} {Z : jZ} {Qf : Int32 → State → Prop} (hz0 : Y.zf = false) (t0 : Nat) (ht0 : shC t0 = 8) (p0 : Int32) (I0 : jI) (L0 : jL) (hX : jOK Y Z RX7 cX7_amiss 2 "amiss" (some .int) 1 80 0 0) (hQ : ∀ r : Int32, Qf r = jQ Y Z 0 0 (some (ji r)) NC shC rfC I0 L0) : J Y Z 2 Qf (X7_amiss t0 p0 I0) 0 [(0, jr t0), (1, ji p0)] [] 0 0 NC shC rfC I0 L0 := by
  unfold X7_amiss
  refine J_aload_n (pc := 0) hX 0 rfl dX7_amiss_0 ?_
  refine g_X7_25 (pc := 1) hX ht0 dX7_amiss_1 ?_
  refine J_iload_n (pc := 4) hX 1 rfl dX7_amiss_4 ?_
  refine J_iald (pc := 5) hX (N := 8) (fs_7_11 t0 ht0) (by decide) dX7_amiss_5 (fun h1 => ?_)
  refine J_if_ge (pc := 6) hX (tgt := 14) (by decide) dX7_amiss_6 (fun h2 => ?_) (fun h2 => ?_)
  · refine J_aload_n (pc := 14) hX 0 rfl dX7_amiss_14 ?_
    refine g_X7_25 (pc := 15) hX ht0 dX7_amiss_15 ?_
    refine J_iload_n (pc := 18) hX 1 rfl dX7_amiss_18 ?_
    refine J_iald (pc := 19) hX (N := 8) (fs_7_11 t0 ht0) (by decide) dX7_amiss_19 (fun h3 => ?_)
    refine J_bipush (pc := 20) hX (v := (9 : Int32)) (by decide) dX7_amiss_20 ?_
    refine J_icmp_le (pc := 22) hX (tgt := 30) (by decide) dX7_amiss_22 (fun h4 => ?_) (fun h4 => ?_)
    · refine J_iconst (pc := 30) hX (v := (0 : Int32)) (by decide) dX7_amiss_30 ?_
      exact J_iret (pc := 31) hX (hQ _) dX7_amiss_31
    · refine J_bipush (pc := 25) hX (v := (-53 : Int32)) (by decide) dX7_amiss_25 ?_
      refine J_goto (pc := 27) hX (tgt := 31) (by decide) dX7_amiss_27 ?_
      exact J_iret (pc := 31) hX (hQ _) dX7_amiss_31
  · refine J_bipush (pc := 9) hX (v := (-54 : Int32)) (by decide) dX7_amiss_9 ?_
    refine J_goto (pc := 11) hX (tgt := 31) (by decide) dX7_amiss_11 ?_
    exact J_iret (pc := 31) hX (hQ _) dX7_amiss_31
theorem C_X7_amiss (Y : jY) (hz0 : Y.zf = false) (t0 : Nat) (ht0 : shC t0 = 8) (p0 : Int32) (I0 : jI) (L0 : jL) (r : Int32) (h : X7_amiss t0 p0 I0 = some r) : jMet Y yX7_amiss cX7_amiss 2 (some .int) 1 80 0 0 [jr t0, ji p0] NC shC rfC I0 L0 (some (ji r)) NC shC rfC I0 L0 :=
  jmet_of _ _ h (fun Z r => jQ Y Z 0 0 (some (ji r)) NC shC rfC I0 L0) (fun _ => rfl) (by decide) (Nat.le_of_ble_eq_true rfl) (fun Z hX => W_X7_amiss hz0 t0 ht0 p0 I0 L0 hX (fun _ => rfl))
def X7_set (t0 : Nat) (p0 : Int32) (p1 : Int32) (p2 : Int64) (I0 : jI) (L0 : jL) : Option (Int32 × jI × jL) :=
(X7_isShelf p0).bind (fun (y1 : Int32) =>
jlet (fun (v3 : Int32) =>
jlet (
if v3 = 0 then (
jb2 (X7_refuses t0 (-52 : Int32) I0) (fun (y7 : Int32) (I8 : jI) =>
some (y7, I8, L0)))
else (
jb2 (X7_refuses t0 v3 I0) (fun (y10 : Int32) (I11 : jI) =>
some (y10, I11, L0)))) (fun (k5 : Option (Int32 × jI × jL)) =>
if v3 = 0 then (
if jin p0 8 then (
(X7_isIn ((p1).toInt64) (0 : Int64) ((((I0 (rfC t0 12) (p0).toNatClampNeg) - (1 : Int32))).toInt64)).bind (fun (y15 : Int32) =>
if y15 = 0 then (
k5)
else (
if jin p0 8 then (
jlet ((I0 (rfC t0 11) (p0).toNatClampNeg)) (fun (y19 : Int32) =>
jlet (if y19 = 0 then (((p2).toInt32).toInt8.toInt32).toInt64 else (if y19 = (1 : Int32) then (((p2).toInt32).toInt16.toInt32).toInt64 else (if y19 = (2 : Int32) then ((p2).toInt32).toInt64 else (if y19 = (3 : Int32) then p2 else (if (lg_cmp p2 (0 : Int64)) = 0 then (0 : Int64) else (1 : Int64)))))) (fun (y25 : Int64) =>
if jin (((40 : Int32) * p0) + p1) 320 then jlet (jup L0 (rfC t0 13) ((((40 : Int32) * p0) + p1)).toNatClampNeg y25) (fun (L27 : jL) =>
some ((1 : Int32), I0, L27)) else none))) else none))) else none)
else (
k5))) (fun (k4 : Int32 → Option (Int32 × jI × jL)) =>
if y1 = 0 then (
k4 (-52 : Int32))
else (
(X7_amiss t0 p0 I0).bind (fun (y29 : Int32) =>
k4 y29))))
set_option maxRecDepth 20000 in
set_option maxHeartbeats 4000000 in
theorem W_X7_set {Y : jY} {Z : jZ} {Qf : Int32 × jI × jL → State → Prop} (hz0 : Y.zf = false) (t0 : Nat) (ht0 : shC t0 = 8) (p0 : Int32) (p1 : Int32) (p2 : Int64) (I0 : jI) (L0 : jL) (hX : jOK Y Z RX7 cX7_set 7 "set" (some .int) 3 125 0 0) (hQ : ∀ r : Int32 × jI × jL, Qf r = jQ Y Z 0 0 (some (ji r.1)) NC shC rfC r.2.1 r.2.2) : J Y Z 7 Qf (X7_set t0 p0 p1 p2 I0 L0) 0 [(0, jr t0), (1, ji p0), (2, ji p1), (3, jl p2)] [] 0 0 NC shC rfC I0 L0 := by
  unfold X7_set
  refine J_iload_n (pc := 0) hX 1 rfl dX7_set_0 ?_
  refine J_call1 (fun y1 e2 => ?_)
  refine jrun_i (pc := 1) (jRunS hX s_X7_188 (As := [ji p0]) (rest := []) (C_X7_isShelf Y hz0 p0 I0 L0 y1 e2) rfl rfl ⟨by decide, by decide⟩ ⟨Nat.le_of_ble_eq_true rfl, Nat.le_of_ble_eq_true rfl⟩ (Nat.le_of_ble_eq_true rfl) dX7_set_1) ?_
  refine J_join (fun (k4 : Int32 → Option (Int32 × jI × jL)) => ∀ (v3 : Int32), J Y Z 7 Qf (k4 v3) 17 [(0, jr t0), (1, ji p0), (2, ji p1), (3, jl p2)] [ji v3] 0 0 NC shC rfC I0 L0) ?_ (fun k4 hk4 => ?_)
  · intro v3
    try dsimp only
    refine J_istore (pc := 17) hX (lo' := [(5, ji v3), (0, jr t0), (1, ji p0), (2, ji p1), (3, jl p2)]) (by decide) rfl dX7_set_17 ?_
    refine J_iload (pc := 19) hX 0 rfl dX7_set_19 ?_
    refine J_join (fun (k5 : Option (Int32 × jI × jL)) => J Y Z 7 Qf (k5) 42 [(0, jr t0), (5, ji v3)] [] 0 0 NC shC rfC I0 L0) ?_ (fun k5 hk5 => ?_)
    · refine J_aload_n (pc := 42) hX 0 rfl dX7_set_42 ?_
      refine J_iload (pc := 43) hX 1 rfl dX7_set_43 ?_
      refine J_if_eq (pc := 45) hX (tgt := 53) (by decide) dX7_set_45 (fun h6 => ?_) (fun h6 => ?_)
      · refine J_bipush (pc := 53) hX (v := (-52 : Int32)) (by decide) dX7_set_53 ?_
        refine J_call2 (fun y7 I8 e9 => ?_)
        refine jrun_i (pc := 55) (jRunV hX s_X7_127 (ci := 7) (T := TX7) (N := 20) (As := [ji (-52 : Int32)]) (rest := []) rfl (by decide) (C_X7_refuses Y hz0 t0 ht0 (-52 : Int32) I0 L0 y7 I8 e9) ht0 rfl rfl ⟨by decide, by decide⟩ ⟨Nat.le_of_ble_eq_true rfl, Nat.le_of_ble_eq_true rfl⟩ (Nat.le_of_ble_eq_true rfl) dX7_set_55) ?_
        exact J_iret (pc := 58) hX (hQ _) dX7_set_58
      · refine J_iload (pc := 48) hX 1 rfl dX7_set_48 ?_
        refine J_goto (pc := 50) hX (tgt := 55) (by decide) dX7_set_50 ?_
        refine J_call2 (fun y10 I11 e12 => ?_)
        refine jrun_i (pc := 55) (jRunV hX s_X7_127 (ci := 7) (T := TX7) (N := 20) (As := [ji v3]) (rest := []) rfl (by decide) (C_X7_refuses Y hz0 t0 ht0 v3 I0 L0 y10 I11 e12) ht0 rfl rfl ⟨by decide, by decide⟩ ⟨Nat.le_of_ble_eq_true rfl, Nat.le_of_ble_eq_true rfl⟩ (Nat.le_of_ble_eq_true rfl) dX7_set_55) ?_
        exact J_iret (pc := 58) hX (hQ _) dX7_set_58
    refine J_if_ne (pc := 21) hX (tgt := 42) (by decide) dX7_set_21 (fun h13 => ?_) (fun h13 => ?_)
    · refine J_sub [1, 0] rfl ?_
      exact hk5
    · refine J_iload_n (pc := 24) hX 3 rfl dX7_set_24 ?_
      refine J_i2l (pc := 25) hX dX7_set_25 ?_
      refine J_lconst (pc := 26) hX (v := (0 : Int64)) (by decide) dX7_set_26 ?_
      refine J_aload_n (pc := 27) hX 1 rfl dX7_set_27 ?_
      refine g_X7_28 (pc := 28) hX ht0 dX7_set_28 ?_
      refine J_iload_n (pc := 31) hX 2 rfl dX7_set_31 ?_
      refine J_iald (pc := 32) hX (N := 8) (fs_7_12 t0 ht0) (by decide) dX7_set_32 (fun h14 => ?_)
      refine J_iconst (pc := 33) hX (v := (1 : Int32)) (by decide) dX7_set_33 ?_
      refine J_isub (pc := 34) hX dX7_set_34 ?_
      refine J_i2l (pc := 35) hX dX7_set_35 ?_
      refine J_call1 (fun y15 e16 => ?_)
      refine jrun_i (pc := 36) (jRunS hX s_X7_47 (As := [jl ((p1).toInt64), jl (0 : Int64), jl ((((I0 (rfC t0 12) (p0).toNatClampNeg) - (1 : Int32))).toInt64)]) (rest := []) (C_X7_isIn Y hz0 ((p1).toInt64) (0 : Int64) ((((I0 (rfC t0 12) (p0).toNatClampNeg) - (1 : Int32))).toInt64) I0 L0 y15 e16) rfl rfl ⟨by decide, by decide⟩ ⟨Nat.le_of_ble_eq_true rfl, Nat.le_of_ble_eq_true rfl⟩ (Nat.le_of_ble_eq_true rfl) dX7_set_36) ?_
      refine J_if_ne (pc := 39) hX (tgt := 59) (by decide) dX7_set_39 (fun h17 => ?_) (fun h17 => ?_)
      · refine J_aload_n (pc := 59) hX 1 rfl dX7_set_59 ?_
        refine g_X7_25 (pc := 60) hX ht0 dX7_set_60 ?_
        refine J_iload_n (pc := 63) hX 2 rfl dX7_set_63 ?_
        refine J_iald (pc := 64) hX (N := 8) (fs_7_11 t0 ht0) (by decide) dX7_set_64 (fun h18 => ?_)
        refine J_leti (fun y19 => ?_)
        refine J_istore (pc := 65) hX (lo' := [(6, ji y19), (5, ji v3), (0, jr t0), (1, ji p0), (2, ji p1), (3, jl p2)]) (by decide) rfl dX7_set_65 ?_
        refine J_aload_n (pc := 67) hX 2 rfl dX7_set_67 ?_
        refine g_X7_31 (pc := 68) hX ht0 dX7_set_68 ?_
        refine J_bipush (pc := 71) hX (v := (40 : Int32)) (by decide) dX7_set_71 ?_
        refine J_iload_n (pc := 73) hX 3 rfl dX7_set_73 ?_
        refine J_imul (pc := 74) hX dX7_set_74 ?_
        refine J_iload_n (pc := 75) hX 4 rfl dX7_set_75 ?_
        refine J_iadd (pc := 76) hX dX7_set_76 ?_
        refine J_iload (pc := 77) hX 0 rfl dX7_set_77 ?_
        refine J_vjoin (fun kq (y25 : Int64) => J Y Z 7 Qf (kq) 135 [(6, ji y19), (5, ji v3), (0, jr t0), (1, ji p0), (2, ji p1), (3, jl p2)] [jl y25, ji (((40 : Int32) * p0) + p1), jr (rfC t0 13)] 0 0 NC shC rfC I0 L0) (fun y25 => ?_) (fun hj => ?_)
        · try dsimp only
          refine J_last (pc := 135) hX (N := 320) (fs_7_13 t0 ht0) (by decide) dX7_set_135 (fun h26 L27 => ?_)
          refine J_iconst (pc := 136) hX (v := (1 : Int32)) (by decide) dX7_set_136 ?_
          exact J_iret (pc := 137) hX (hQ _) dX7_set_137
        try dsimp only at hj
        refine J_if_neV (pc := 79) hX (tgt := 89) (by decide) dX7_set_79 (fun h24 => ?_) (fun h24 => ?_)
        · refine J_iload (pc := 89) hX 0 rfl dX7_set_89 ?_
          refine J_iconst (pc := 91) hX (v := (1 : Int32)) (by decide) dX7_set_91 ?_
          refine J_icmp_neV (pc := 92) hX (tgt := 102) (by decide) dX7_set_92 (fun h23 => ?_) (fun h23 => ?_)
          · refine J_iload (pc := 102) hX 0 rfl dX7_set_102 ?_
            refine J_iconst (pc := 104) hX (v := (2 : Int32)) (by decide) dX7_set_104 ?_
            refine J_icmp_neV (pc := 105) hX (tgt := 114) (by decide) dX7_set_105 (fun h22 => ?_) (fun h22 => ?_)
            · refine J_iload (pc := 114) hX 0 rfl dX7_set_114 ?_
              refine J_iconst (pc := 116) hX (v := (3 : Int32)) (by decide) dX7_set_116 ?_
              refine J_icmp_neV (pc := 117) hX (tgt := 124) (by decide) dX7_set_117 (fun h21 => ?_) (fun h21 => ?_)
              · refine J_lload_n (pc := 124) hX 5 rfl dX7_set_124 ?_
                refine J_lconst (pc := 125) hX (v := (0 : Int64)) (by decide) dX7_set_125 ?_
                refine J_lcmp (pc := 126) hX dX7_set_126 ?_
                refine J_if_eqV (pc := 127) hX (tgt := 134) (by decide) dX7_set_127 (fun h20 => ?_) (fun h20 => ?_)
                · refine J_lconst (pc := 134) hX (v := (0 : Int64)) (by decide) dX7_set_134 ?_
                  exact hj _
                · refine J_lconst (pc := 130) hX (v := (1 : Int64)) (by decide) dX7_set_130 ?_
                  refine J_goto (pc := 131) hX (tgt := 135) (by decide) dX7_set_131 ?_
                  exact hj _
              · refine J_lload_n (pc := 120) hX 5 rfl dX7_set_120 ?_
                refine J_goto (pc := 121) hX (tgt := 135) (by decide) dX7_set_121 ?_
                exact hj _
            · refine J_lload_n (pc := 108) hX 5 rfl dX7_set_108 ?_
              refine J_l2i (pc := 109) hX dX7_set_109 ?_
              refine J_i2l (pc := 110) hX dX7_set_110 ?_
              refine J_goto (pc := 111) hX (tgt := 135) (by decide) dX7_set_111 ?_
              exact hj _
          · refine J_lload_n (pc := 95) hX 5 rfl dX7_set_95 ?_
            refine J_l2i (pc := 96) hX dX7_set_96 ?_
            refine J_i2s (pc := 97) hX dX7_set_97 ?_
            refine J_i2l (pc := 98) hX dX7_set_98 ?_
            refine J_goto (pc := 99) hX (tgt := 135) (by decide) dX7_set_99 ?_
            exact hj _
        · refine J_lload_n (pc := 82) hX 5 rfl dX7_set_82 ?_
          refine J_l2i (pc := 83) hX dX7_set_83 ?_
          refine J_i2b (pc := 84) hX dX7_set_84 ?_
          refine J_i2l (pc := 85) hX dX7_set_85 ?_
          refine J_goto (pc := 86) hX (tgt := 135) (by decide) dX7_set_86 ?_
          exact hj _
      · refine J_sub [1, 0] rfl ?_
        exact hk5
  refine J_if_eq (pc := 4) hX (tgt := 15) (by decide) dX7_set_4 (fun h28 => ?_) (fun h28 => ?_)
  · refine J_bipush (pc := 15) hX (v := (-52 : Int32)) (by decide) dX7_set_15 ?_
    exact hk4 (-52 : Int32)
  · refine J_aload_n (pc := 7) hX 0 rfl dX7_set_7 ?_
    refine J_iload_n (pc := 8) hX 1 rfl dX7_set_8 ?_
    refine J_call1 (fun y29 e30 => ?_)
    refine jrun_i (pc := 9) (jRunV hX s_X7_195 (ci := 7) (T := TX7) (N := 20) (As := [ji p0]) (rest := []) rfl (by decide) (C_X7_amiss Y hz0 t0 ht0 p0 I0 L0 y29 e30) ht0 rfl rfl ⟨by decide, by decide⟩ ⟨Nat.le_of_ble_eq_true rfl, Nat.le_of_ble_eq_true rfl⟩ (Nat.le_of_ble_eq_true rfl) dX7_set_9) ?_
    refine J_goto (pc := 12) hX (tgt := 17) (by decide) dX7_set_12 ?_
    exact hk4 y29
theorem C_X7_set (Y : jY) (hz0 : Y.zf = false) (t0 : Nat) (ht0 : shC t0 = 8) (p0 : Int32) (p1 : Int32) (p2 : Int64) (I0 : jI) (L0 : jL) (r : Int32) (I1 : jI) (L1 : jL) (h : X7_set t0 p0 p1 p2 I0 L0 = some (r, I1, L1)) : jMet Y yX7_set cX7_set 7 (some .int) 3 125 0 0 [jr t0, ji p0, ji p1, jl p2] NC shC rfC I0 L0 (some (ji r)) NC shC rfC I1 L1 :=
  jmet_of _ _ h (fun Z r => jQ Y Z 0 0 (some (ji r.1)) NC shC rfC r.2.1 r.2.2) (fun _ => rfl) (by decide) (Nat.le_of_ble_eq_true rfl) (fun Z hX => W_X7_set hz0 t0 ht0 p0 p1 p2 I0 L0 hX (fun _ => rfl))
def X7_copy_F1 (t0 : Nat) (p1 : Int32) (p3 : Int32) (p4 : Int32) (I0 : jI) (g51 : Int32 → jL → Option (Int32 × jI × jL)) : Int32 → jL → Option (Int32 × jI × jL) := fun (v49 : Int32) (L50 : jL) =>
if p4 ≤ v49 then (
some (p4, I0, L50))
else (
if jin v49 40 then (
if jin ((((40 : Int32) * p1) + p3) + v49) 320 then jlet (jup L50 (rfC t0 13) (((((40 : Int32) * p1) + p3) + v49)).toNatClampNeg (L50 (rfC t0 14) (v49).toNatClampNeg)) (fun (L55 : jL) =>
g51 (v49 + (1 : Int32)) L55) else none) else none)
def X7_copy_F2 (t0 : Nat) (p0 : Int32) (p2 : Int32) (p4 : Int32) (k48 : jL → Option (Int32 × jI × jL)) (g58 : Int32 → jL → Option (Int32 × jI × jL)) : Int32 → jL → Option (Int32 × jI × jL) := fun (v56 : Int32) (L57 : jL) =>
if p4 ≤ v56 then (
k48 L57)
else (
if jin ((((40 : Int32) * p0) + p2) + v56) 320 then (
if jin v56 40 then jlet (jup L57 (rfC t0 14) (v56).toNatClampNeg (L57 (rfC t0 13) (((((40 : Int32) * p0) + p2) + v56)).toNatClampNeg)) (fun (L62 : jL) =>
g58 (v56 + (1 : Int32)) L62) else none) else none)
def X7_copy (t0 : Nat) (p0 : Int32) (p1 : Int32) (p2 : Int32) (p3 : Int32) (p4 : Int32) (I0 : jI) (L0 : jL) : Option (Int32 × jI × jL) :=
(X7_isShelf p0).bind (fun (y1 : Int32) =>
if y1 = 0 then (
jb2 (X7_refuses t0 (-52 : Int32) I0) (fun (y4 : Int32) (I5 : jI) =>
some (y4, I5, L0)))
else (
(X7_isShelf p1).bind (fun (y7 : Int32) =>
if y7 = 0 then (
jb2 (X7_refuses t0 (-52 : Int32) I0) (fun (y77 : Int32) (I78 : jI) =>
some (y77, I78, L0)))
else (
(X7_amiss t0 p0 I0).bind (fun (y10 : Int32) =>
(X7_amiss t0 p1 I0).bind (fun (y12 : Int32) =>
if y10 = (-53 : Int32) then (
jb2 (X7_refuses t0 (-53 : Int32) I0) (fun (y15 : Int32) (I16 : jI) =>
some (y15, I16, L0)))
else (
if y12 = (-53 : Int32) then (
jb2 (X7_refuses t0 (-53 : Int32) I0) (fun (y19 : Int32) (I20 : jI) =>
some (y19, I20, L0)))
else (
jlet (
if y10 = 0 then (
if y12 = 0 then (
if p4 < 0 then (
jb2 (X7_refuses t0 (-52 : Int32) I0) (fun (y29 : Int32) (I30 : jI) =>
some (y29, I30, L0)))
else (
if p2 < 0 then (
jb2 (X7_refuses t0 (-52 : Int32) I0) (fun (y33 : Int32) (I34 : jI) =>
some (y33, I34, L0)))
else (
if p3 < 0 then (
jb2 (X7_refuses t0 (-52 : Int32) I0) (fun (y37 : Int32) (I38 : jI) =>
some (y37, I38, L0)))
else (
if jin p0 8 then (
if ((I0 (rfC t0 12) (p0).toNatClampNeg) - p2) < p4 then (
jb2 (X7_refuses t0 (-52 : Int32) I0) (fun (y42 : Int32) (I43 : jI) =>
some (y42, I43, L0)))
else (
if jin p1 8 then (
if p4 ≤ ((I0 (rfC t0 12) (p1).toNatClampNeg) - p3) then (
jlet (fun (L47 : jL) =>
jfx (X7_copy_F1 t0 p1 p3 p4 I0) (fun _ _ => none) 1000 (0 : Int32) L47) (fun (k48 : jL → Option (Int32 × jI × jL)) =>
jfx (X7_copy_F2 t0 p0 p2 p4 k48) (fun _ _ => none) 1000 (0 : Int32) L0))
else (
jb2 (X7_refuses t0 (-52 : Int32) I0) (fun (y63 : Int32) (I64 : jI) =>
some (y63, I64, L0)))) else none)) else none))))
else (
jb2 (X7_refuses t0 (-54 : Int32) I0) (fun (y66 : Int32) (I67 : jI) =>
some (y66, I67, L0))))
else (
jb2 (X7_refuses t0 (-54 : Int32) I0) (fun (y24 : Int32) (I25 : jI) =>
some (y24, I25, L0)))) (fun (k22 : Option (Int32 × jI × jL)) =>
if y10 = 0 then (
if y12 = 0 then (
if jin p0 8 then (
if jin p1 8 then (
if (I0 (rfC t0 11) (p0).toNatClampNeg) = (I0 (rfC t0 11) (p1).toNatClampNeg) then (
k22)
else (
jb2 (X7_refuses t0 (-53 : Int32) I0) (fun (y74 : Int32) (I75 : jI) =>
some (y74, I75, L0)))) else none) else none)
else (
k22))
else (
k22))))))))))
set_option maxRecDepth 20000 in
set_option maxHeartbeats 4000000 in
theorem W_X7_copy {Y : jY} {Z : jZ} {Qf : Int32 × jI × jL → State → Prop} (hz0 : Y.zf = false) (t0 : Nat) (ht0 : shC t0 = 8) (p0 : Int32) (p1 : Int32) (p2 : Int32) (p3 : Int32) (p4 : Int32) (I0 : jI) (L0 : jL) (hX : jOK Y Z RX7 cX7_copy 9 "copy" (some .int) 3 125 0 0) (hQ : ∀ r : Int32 × jI × jL, Qf r = jQ Y Z 0 0 (some (ji r.1)) NC shC rfC r.2.1 r.2.2) : J Y Z 9 Qf (X7_copy t0 p0 p1 p2 p3 p4 I0 L0) 0 [(0, jr t0), (1, ji p0), (2, ji p1), (3, ji p2), (4, ji p3), (5, ji p4)] [] 0 0 NC shC rfC I0 L0 := by
  unfold X7_copy
  refine J_iload_n (pc := 0) hX 1 rfl dX7_copy_0 ?_
  refine J_call1 (fun y1 e2 => ?_)
  refine jrun_i (pc := 1) (jRunS hX s_X7_188 (As := [ji p0]) (rest := []) (C_X7_isShelf Y hz0 p0 I0 L0 y1 e2) rfl rfl ⟨by decide, by decide⟩ ⟨Nat.le_of_ble_eq_true rfl, Nat.le_of_ble_eq_true rfl⟩ (Nat.le_of_ble_eq_true rfl) dX7_copy_1) ?_
  refine J_if_eq (pc := 4) hX (tgt := 14) (by decide) dX7_copy_4 (fun h3 => ?_) (fun h3 => ?_)
  · refine J_aload_n (pc := 14) hX 0 rfl dX7_copy_14 ?_
    refine J_bipush (pc := 15) hX (v := (-52 : Int32)) (by decide) dX7_copy_15 ?_
    refine J_call2 (fun y4 I5 e6 => ?_)
    refine jrun_i (pc := 17) (jRunV hX s_X7_127 (ci := 7) (T := TX7) (N := 20) (As := [ji (-52 : Int32)]) (rest := []) rfl (by decide) (C_X7_refuses Y hz0 t0 ht0 (-52 : Int32) I0 L0 y4 I5 e6) ht0 rfl rfl ⟨by decide, by decide⟩ ⟨Nat.le_of_ble_eq_true rfl, Nat.le_of_ble_eq_true rfl⟩ (Nat.le_of_ble_eq_true rfl) dX7_copy_17) ?_
    exact J_iret (pc := 20) hX (hQ _) dX7_copy_20
  · refine J_iload_n (pc := 7) hX 2 rfl dX7_copy_7 ?_
    refine J_call1 (fun y7 e8 => ?_)
    refine jrun_i (pc := 8) (jRunS hX s_X7_188 (As := [ji p1]) (rest := []) (C_X7_isShelf Y hz0 p1 I0 L0 y7 e8) rfl rfl ⟨by decide, by decide⟩ ⟨Nat.le_of_ble_eq_true rfl, Nat.le_of_ble_eq_true rfl⟩ (Nat.le_of_ble_eq_true rfl) dX7_copy_8) ?_
    refine J_if_ne (pc := 11) hX (tgt := 21) (by decide) dX7_copy_11 (fun h9 => ?_) (fun h9 => ?_)
    · refine J_aload_n (pc := 21) hX 0 rfl dX7_copy_21 ?_
      refine J_iload_n (pc := 22) hX 1 rfl dX7_copy_22 ?_
      refine J_call1 (fun y10 e11 => ?_)
      refine jrun_i (pc := 23) (jRunV hX s_X7_195 (ci := 7) (T := TX7) (N := 20) (As := [ji p0]) (rest := []) rfl (by decide) (C_X7_amiss Y hz0 t0 ht0 p0 I0 L0 y10 e11) ht0 rfl rfl ⟨by decide, by decide⟩ ⟨Nat.le_of_ble_eq_true rfl, Nat.le_of_ble_eq_true rfl⟩ (Nat.le_of_ble_eq_true rfl) dX7_copy_23) ?_
      refine J_istore (pc := 26) hX (lo' := [(6, ji y10), (0, jr t0), (1, ji p0), (2, ji p1), (3, ji p2), (4, ji p3), (5, ji p4)]) (by decide) rfl dX7_copy_26 ?_
      refine J_aload_n (pc := 28) hX 1 rfl dX7_copy_28 ?_
      refine J_iload_n (pc := 29) hX 3 rfl dX7_copy_29 ?_
      refine J_call1 (fun y12 e13 => ?_)
      refine jrun_i (pc := 30) (jRunV hX s_X7_195 (ci := 7) (T := TX7) (N := 20) (As := [ji p1]) (rest := []) rfl (by decide) (C_X7_amiss Y hz0 t0 ht0 p1 I0 L0 y12 e13) ht0 rfl rfl ⟨by decide, by decide⟩ ⟨Nat.le_of_ble_eq_true rfl, Nat.le_of_ble_eq_true rfl⟩ (Nat.le_of_ble_eq_true rfl) dX7_copy_30) ?_
      refine J_istore (pc := 33) hX (lo' := [(7, ji y12), (6, ji y10), (0, jr t0), (1, ji p0), (2, ji p1), (3, ji p2), (4, ji p3), (5, ji p4)]) (by decide) rfl dX7_copy_33 ?_
      refine J_iload (pc := 35) hX 1 rfl dX7_copy_35 ?_
      refine J_bipush (pc := 37) hX (v := (-53 : Int32)) (by decide) dX7_copy_37 ?_
      refine J_icmp_eq (pc := 39) hX (tgt := 74) (by decide) dX7_copy_39 (fun h14 => ?_) (fun h14 => ?_)
      · refine J_aload_n (pc := 74) hX 2 rfl dX7_copy_74 ?_
        refine J_bipush (pc := 75) hX (v := (-53 : Int32)) (by decide) dX7_copy_75 ?_
        refine J_call2 (fun y15 I16 e17 => ?_)
        refine jrun_i (pc := 77) (jRunV hX s_X7_127 (ci := 7) (T := TX7) (N := 20) (As := [ji (-53 : Int32)]) (rest := []) rfl (by decide) (C_X7_refuses Y hz0 t0 ht0 (-53 : Int32) I0 L0 y15 I16 e17) ht0 rfl rfl ⟨by decide, by decide⟩ ⟨Nat.le_of_ble_eq_true rfl, Nat.le_of_ble_eq_true rfl⟩ (Nat.le_of_ble_eq_true rfl) dX7_copy_77) ?_
        exact J_iret (pc := 80) hX (hQ _) dX7_copy_80
      · refine J_iload (pc := 42) hX 0 rfl dX7_copy_42 ?_
        refine J_bipush (pc := 44) hX (v := (-53 : Int32)) (by decide) dX7_copy_44 ?_
        refine J_icmp_eq (pc := 46) hX (tgt := 74) (by decide) dX7_copy_46 (fun h18 => ?_) (fun h18 => ?_)
        · refine J_aload_n (pc := 74) hX 2 rfl dX7_copy_74 ?_
          refine J_bipush (pc := 75) hX (v := (-53 : Int32)) (by decide) dX7_copy_75 ?_
          refine J_call2 (fun y19 I20 e21 => ?_)
          refine jrun_i (pc := 77) (jRunV hX s_X7_127 (ci := 7) (T := TX7) (N := 20) (As := [ji (-53 : Int32)]) (rest := []) rfl (by decide) (C_X7_refuses Y hz0 t0 ht0 (-53 : Int32) I0 L0 y19 I20 e21) ht0 rfl rfl ⟨by decide, by decide⟩ ⟨Nat.le_of_ble_eq_true rfl, Nat.le_of_ble_eq_true rfl⟩ (Nat.le_of_ble_eq_true rfl) dX7_copy_77) ?_
          exact J_iret (pc := 80) hX (hQ _) dX7_copy_80
        · refine J_iload (pc := 49) hX 1 rfl dX7_copy_49 ?_
          refine J_join (fun (k22 : Option (Int32 × jI × jL)) => J Y Z 9 Qf (k22) 81 [(0, jr t0), (1, ji p0), (2, ji p1), (3, ji p2), (4, ji p3), (5, ji p4), (6, ji y10), (7, ji y12)] [] 0 0 NC shC rfC I0 L0) ?_ (fun k22 hk22 => ?_)
          · refine J_iload (pc := 81) hX 6 rfl dX7_copy_81 ?_
            refine J_if_ne (pc := 83) hX (tgt := 91) (by decide) dX7_copy_83 (fun h23 => ?_) (fun h23 => ?_)
            · refine J_aload_n (pc := 91) hX 0 rfl dX7_copy_91 ?_
              refine J_bipush (pc := 92) hX (v := (-54 : Int32)) (by decide) dX7_copy_92 ?_
              refine J_call2 (fun y24 I25 e26 => ?_)
              refine jrun_i (pc := 94) (jRunV hX s_X7_127 (ci := 7) (T := TX7) (N := 20) (As := [ji (-54 : Int32)]) (rest := []) rfl (by decide) (C_X7_refuses Y hz0 t0 ht0 (-54 : Int32) I0 L0 y24 I25 e26) ht0 rfl rfl ⟨by decide, by decide⟩ ⟨Nat.le_of_ble_eq_true rfl, Nat.le_of_ble_eq_true rfl⟩ (Nat.le_of_ble_eq_true rfl) dX7_copy_94) ?_
              exact J_iret (pc := 97) hX (hQ _) dX7_copy_97
            · refine J_iload (pc := 86) hX 7 rfl dX7_copy_86 ?_
              refine J_if_eq (pc := 88) hX (tgt := 98) (by decide) dX7_copy_88 (fun h27 => ?_) (fun h27 => ?_)
              · refine J_iload (pc := 98) hX 5 rfl dX7_copy_98 ?_
                refine J_if_lt (pc := 100) hX (tgt := 139) (by decide) dX7_copy_100 (fun h28 => ?_) (fun h28 => ?_)
                · refine J_aload_n (pc := 139) hX 0 rfl dX7_copy_139 ?_
                  refine J_bipush (pc := 140) hX (v := (-52 : Int32)) (by decide) dX7_copy_140 ?_
                  refine J_call2 (fun y29 I30 e31 => ?_)
                  refine jrun_i (pc := 142) (jRunV hX s_X7_127 (ci := 7) (T := TX7) (N := 20) (As := [ji (-52 : Int32)]) (rest := []) rfl (by decide) (C_X7_refuses Y hz0 t0 ht0 (-52 : Int32) I0 L0 y29 I30 e31) ht0 rfl rfl ⟨by decide, by decide⟩ ⟨Nat.le_of_ble_eq_true rfl, Nat.le_of_ble_eq_true rfl⟩ (Nat.le_of_ble_eq_true rfl) dX7_copy_142) ?_
                  exact J_iret (pc := 145) hX (hQ _) dX7_copy_145
                · refine J_iload_n (pc := 103) hX 3 rfl dX7_copy_103 ?_
                  refine J_if_lt (pc := 104) hX (tgt := 139) (by decide) dX7_copy_104 (fun h32 => ?_) (fun h32 => ?_)
                  · refine J_aload_n (pc := 139) hX 0 rfl dX7_copy_139 ?_
                    refine J_bipush (pc := 140) hX (v := (-52 : Int32)) (by decide) dX7_copy_140 ?_
                    refine J_call2 (fun y33 I34 e35 => ?_)
                    refine jrun_i (pc := 142) (jRunV hX s_X7_127 (ci := 7) (T := TX7) (N := 20) (As := [ji (-52 : Int32)]) (rest := []) rfl (by decide) (C_X7_refuses Y hz0 t0 ht0 (-52 : Int32) I0 L0 y33 I34 e35) ht0 rfl rfl ⟨by decide, by decide⟩ ⟨Nat.le_of_ble_eq_true rfl, Nat.le_of_ble_eq_true rfl⟩ (Nat.le_of_ble_eq_true rfl) dX7_copy_142) ?_
                    exact J_iret (pc := 145) hX (hQ _) dX7_copy_145
                  · refine J_iload (pc := 107) hX 4 rfl dX7_copy_107 ?_
                    refine J_if_lt (pc := 109) hX (tgt := 139) (by decide) dX7_copy_109 (fun h36 => ?_) (fun h36 => ?_)
                    · refine J_aload_n (pc := 139) hX 0 rfl dX7_copy_139 ?_
                      refine J_bipush (pc := 140) hX (v := (-52 : Int32)) (by decide) dX7_copy_140 ?_
                      refine J_call2 (fun y37 I38 e39 => ?_)
                      refine jrun_i (pc := 142) (jRunV hX s_X7_127 (ci := 7) (T := TX7) (N := 20) (As := [ji (-52 : Int32)]) (rest := []) rfl (by decide) (C_X7_refuses Y hz0 t0 ht0 (-52 : Int32) I0 L0 y37 I38 e39) ht0 rfl rfl ⟨by decide, by decide⟩ ⟨Nat.le_of_ble_eq_true rfl, Nat.le_of_ble_eq_true rfl⟩ (Nat.le_of_ble_eq_true rfl) dX7_copy_142) ?_
                      exact J_iret (pc := 145) hX (hQ _) dX7_copy_145
                    · refine J_iload (pc := 112) hX 5 rfl dX7_copy_112 ?_
                      refine J_aload_n (pc := 114) hX 0 rfl dX7_copy_114 ?_
                      refine g_X7_28 (pc := 115) hX ht0 dX7_copy_115 ?_
                      refine J_iload_n (pc := 118) hX 1 rfl dX7_copy_118 ?_
                      refine J_iald (pc := 119) hX (N := 8) (fs_7_12 t0 ht0) (by decide) dX7_copy_119 (fun h40 => ?_)
                      refine J_iload_n (pc := 120) hX 3 rfl dX7_copy_120 ?_
                      refine J_isub (pc := 121) hX dX7_copy_121 ?_
                      refine J_icmp_gt (pc := 122) hX (tgt := 139) (by decide) dX7_copy_122 (fun h41 => ?_) (fun h41 => ?_)
                      · refine J_aload_n (pc := 139) hX 0 rfl dX7_copy_139 ?_
                        refine J_bipush (pc := 140) hX (v := (-52 : Int32)) (by decide) dX7_copy_140 ?_
                        refine J_call2 (fun y42 I43 e44 => ?_)
                        refine jrun_i (pc := 142) (jRunV hX s_X7_127 (ci := 7) (T := TX7) (N := 20) (As := [ji (-52 : Int32)]) (rest := []) rfl (by decide) (C_X7_refuses Y hz0 t0 ht0 (-52 : Int32) I0 L0 y42 I43 e44) ht0 rfl rfl ⟨by decide, by decide⟩ ⟨Nat.le_of_ble_eq_true rfl, Nat.le_of_ble_eq_true rfl⟩ (Nat.le_of_ble_eq_true rfl) dX7_copy_142) ?_
                        exact J_iret (pc := 145) hX (hQ _) dX7_copy_145
                      · refine J_iload (pc := 125) hX 5 rfl dX7_copy_125 ?_
                        refine J_aload_n (pc := 127) hX 0 rfl dX7_copy_127 ?_
                        refine g_X7_28 (pc := 128) hX ht0 dX7_copy_128 ?_
                        refine J_iload_n (pc := 131) hX 2 rfl dX7_copy_131 ?_
                        refine J_iald (pc := 132) hX (N := 8) (fs_7_12 t0 ht0) (by decide) dX7_copy_132 (fun h45 => ?_)
                        refine J_iload (pc := 133) hX 4 rfl dX7_copy_133 ?_
                        refine J_isub (pc := 135) hX dX7_copy_135 ?_
                        refine J_icmp_le (pc := 136) hX (tgt := 146) (by decide) dX7_copy_136 (fun h46 => ?_) (fun h46 => ?_)
                        · refine J_iconst (pc := 146) hX (v := (0 : Int32)) (by decide) dX7_copy_146 ?_
                          refine J_istore (pc := 147) hX (lo' := [(8, ji (0 : Int32)), (0, jr t0), (1, ji p0), (2, ji p1), (3, ji p2), (4, ji p3), (5, ji p4), (6, ji y10), (7, ji y12)]) (by decide) rfl dX7_copy_147 ?_
                          refine J_join (fun (k48 : jL → Option (Int32 × jI × jL)) => ∀ (L47 : jL), J Y Z 9 Qf (k48 L47) 183 [(0, jr t0), (2, ji p1), (4, ji p3), (5, ji p4)] [] 0 0 NC shC rfC I0 L47) ?_ (fun k48 hk48 => ?_)
                          · intro L47
                            try dsimp only
                            refine J_iconst (pc := 183) hX (v := (0 : Int32)) (by decide) dX7_copy_183 ?_
                            refine J_istore (pc := 184) hX (lo' := [(8, ji (0 : Int32)), (0, jr t0), (2, ji p1), (4, ji p3), (5, ji p4)]) (by decide) rfl dX7_copy_184 ?_
                            have lhg51 : ∀ mq : Nat, ∀ (v49 : Int32) (L50 : jL), J Y Z 9 Qf (jfx (X7_copy_F1 t0 p1 p3 p4 I0) (fun _ _ => none) mq v49 L50) 186 [(0, jr t0), (2, ji p1), (4, ji p3), (5, ji p4), (8, ji v49)] [] 0 0 NC shC rfC I0 L50 := by
                              intro mq
                              refine jfx_J (fun (_ : Nat) (g51 : Int32 → jL → Option (Int32 × jI × jL)) => ∀ (v49 : Int32) (L50 : jL), J Y Z 9 Qf (g51 v49 L50) 186 [(0, jr t0), (2, ji p1), (4, ji p3), (5, ji p4), (8, ji v49)] [] 0 0 NC shC rfC I0 L50) ?_ (fun _ g51 hg51 => ?_) mq
                              · intro v49 L50
                                exact J_none
                              intro v49 L50
                              unfold X7_copy_F1
                              try dsimp only
                              refine J_iload (pc := 186) hX 4 rfl dX7_copy_186 ?_
                              refine J_iload (pc := 188) hX 3 rfl dX7_copy_188 ?_
                              refine J_icmp_ge (pc := 190) hX (tgt := 221) (by decide) dX7_copy_190 (fun h52 => ?_) (fun h52 => ?_)
                              · refine J_iload (pc := 221) hX 3 rfl dX7_copy_221 ?_
                                exact J_iret (pc := 223) hX (hQ _) dX7_copy_223
                              · refine J_aload_n (pc := 193) hX 0 rfl dX7_copy_193 ?_
                                refine g_X7_31 (pc := 194) hX ht0 dX7_copy_194 ?_
                                refine J_bipush (pc := 197) hX (v := (40 : Int32)) (by decide) dX7_copy_197 ?_
                                refine J_iload_n (pc := 199) hX 1 rfl dX7_copy_199 ?_
                                refine J_imul (pc := 200) hX dX7_copy_200 ?_
                                refine J_iload (pc := 201) hX 2 rfl dX7_copy_201 ?_
                                refine J_iadd (pc := 203) hX dX7_copy_203 ?_
                                refine J_iload (pc := 204) hX 4 rfl dX7_copy_204 ?_
                                refine J_iadd (pc := 206) hX dX7_copy_206 ?_
                                refine J_aload_n (pc := 207) hX 0 rfl dX7_copy_207 ?_
                                refine g_X7_35 (pc := 208) hX ht0 dX7_copy_208 ?_
                                refine J_iload (pc := 211) hX 4 rfl dX7_copy_211 ?_
                                refine J_lald (pc := 213) hX (N := 40) (fs_7_14 t0 ht0) (by decide) dX7_copy_213 (fun h53 => ?_)
                                refine J_last (pc := 214) hX (N := 320) (fs_7_13 t0 ht0) (by decide) dX7_copy_214 (fun h54 L55 => ?_)
                                refine J_iinc (pc := 215) hX (v := (v49 + (1 : Int32))) (lo' := [(8, ji (v49 + (1 : Int32))), (0, jr t0), (2, ji p1), (4, ji p3), (5, ji p4)]) 4 rfl (by rfl) (by decide) rfl dX7_copy_215 ?_
                                refine J_goto (pc := 218) hX (tgt := 186) (by decide) dX7_copy_218 ?_
                                refine J_sub [1, 2, 3, 4, 0] rfl ?_
                                exact hg51 (v49 + (1 : Int32)) L55
                            refine J_sub [1, 2, 3, 4, 0] rfl ?_
                            exact lhg51 1000 (0 : Int32) L47
                          have lhg58 : ∀ mq : Nat, ∀ (v56 : Int32) (L57 : jL), J Y Z 9 Qf (jfx (X7_copy_F2 t0 p0 p2 p4 k48) (fun _ _ => none) mq v56 L57) 149 [(0, jr t0), (1, ji p0), (2, ji p1), (3, ji p2), (4, ji p3), (5, ji p4), (8, ji v56)] [] 0 0 NC shC rfC I0 L57 := by
                            intro mq
                            refine jfx_J (fun (_ : Nat) (g58 : Int32 → jL → Option (Int32 × jI × jL)) => ∀ (v56 : Int32) (L57 : jL), J Y Z 9 Qf (g58 v56 L57) 149 [(0, jr t0), (1, ji p0), (2, ji p1), (3, ji p2), (4, ji p3), (5, ji p4), (8, ji v56)] [] 0 0 NC shC rfC I0 L57) ?_ (fun _ g58 hg58 => ?_) mq
                            · intro v56 L57
                              exact J_none
                            intro v56 L57
                            unfold X7_copy_F2
                            try dsimp only
                            refine J_iload (pc := 149) hX 6 rfl dX7_copy_149 ?_
                            refine J_iload (pc := 151) hX 5 rfl dX7_copy_151 ?_
                            refine J_icmp_ge (pc := 153) hX (tgt := 183) (by decide) dX7_copy_153 (fun h59 => ?_) (fun h59 => ?_)
                            · refine J_sub [0, 2, 4, 5] rfl ?_
                              exact hk48 L57
                            · refine J_aload_n (pc := 156) hX 0 rfl dX7_copy_156 ?_
                              refine g_X7_35 (pc := 157) hX ht0 dX7_copy_157 ?_
                              refine J_iload (pc := 160) hX 6 rfl dX7_copy_160 ?_
                              refine J_aload_n (pc := 162) hX 0 rfl dX7_copy_162 ?_
                              refine g_X7_31 (pc := 163) hX ht0 dX7_copy_163 ?_
                              refine J_bipush (pc := 166) hX (v := (40 : Int32)) (by decide) dX7_copy_166 ?_
                              refine J_iload_n (pc := 168) hX 1 rfl dX7_copy_168 ?_
                              refine J_imul (pc := 169) hX dX7_copy_169 ?_
                              refine J_iload_n (pc := 170) hX 3 rfl dX7_copy_170 ?_
                              refine J_iadd (pc := 171) hX dX7_copy_171 ?_
                              refine J_iload (pc := 172) hX 6 rfl dX7_copy_172 ?_
                              refine J_iadd (pc := 174) hX dX7_copy_174 ?_
                              refine J_lald (pc := 175) hX (N := 320) (fs_7_13 t0 ht0) (by decide) dX7_copy_175 (fun h60 => ?_)
                              refine J_last (pc := 176) hX (N := 40) (fs_7_14 t0 ht0) (by decide) dX7_copy_176 (fun h61 L62 => ?_)
                              refine J_iinc (pc := 177) hX (v := (v56 + (1 : Int32))) (lo' := [(8, ji (v56 + (1 : Int32))), (0, jr t0), (1, ji p0), (2, ji p1), (3, ji p2), (4, ji p3), (5, ji p4)]) 6 rfl (by rfl) (by decide) rfl dX7_copy_177 ?_
                              refine J_goto (pc := 180) hX (tgt := 149) (by decide) dX7_copy_180 ?_
                              refine J_sub [1, 2, 3, 4, 5, 6, 0] rfl ?_
                              exact hg58 (v56 + (1 : Int32)) L62
                          refine J_sub [1, 2, 3, 4, 5, 6, 0] rfl ?_
                          exact lhg58 1000 (0 : Int32) L0
                        · refine J_aload_n (pc := 139) hX 0 rfl dX7_copy_139 ?_
                          refine J_bipush (pc := 140) hX (v := (-52 : Int32)) (by decide) dX7_copy_140 ?_
                          refine J_call2 (fun y63 I64 e65 => ?_)
                          refine jrun_i (pc := 142) (jRunV hX s_X7_127 (ci := 7) (T := TX7) (N := 20) (As := [ji (-52 : Int32)]) (rest := []) rfl (by decide) (C_X7_refuses Y hz0 t0 ht0 (-52 : Int32) I0 L0 y63 I64 e65) ht0 rfl rfl ⟨by decide, by decide⟩ ⟨Nat.le_of_ble_eq_true rfl, Nat.le_of_ble_eq_true rfl⟩ (Nat.le_of_ble_eq_true rfl) dX7_copy_142) ?_
                          exact J_iret (pc := 145) hX (hQ _) dX7_copy_145
              · refine J_aload_n (pc := 91) hX 0 rfl dX7_copy_91 ?_
                refine J_bipush (pc := 92) hX (v := (-54 : Int32)) (by decide) dX7_copy_92 ?_
                refine J_call2 (fun y66 I67 e68 => ?_)
                refine jrun_i (pc := 94) (jRunV hX s_X7_127 (ci := 7) (T := TX7) (N := 20) (As := [ji (-54 : Int32)]) (rest := []) rfl (by decide) (C_X7_refuses Y hz0 t0 ht0 (-54 : Int32) I0 L0 y66 I67 e68) ht0 rfl rfl ⟨by decide, by decide⟩ ⟨Nat.le_of_ble_eq_true rfl, Nat.le_of_ble_eq_true rfl⟩ (Nat.le_of_ble_eq_true rfl) dX7_copy_94) ?_
                exact J_iret (pc := 97) hX (hQ _) dX7_copy_97
          refine J_if_ne (pc := 51) hX (tgt := 81) (by decide) dX7_copy_51 (fun h69 => ?_) (fun h69 => ?_)
          · refine J_sub [2, 3, 4, 5, 6, 7, 1, 0] rfl ?_
            exact hk22
          · refine J_iload (pc := 54) hX 0 rfl dX7_copy_54 ?_
            refine J_if_ne (pc := 56) hX (tgt := 81) (by decide) dX7_copy_56 (fun h70 => ?_) (fun h70 => ?_)
            · refine J_sub [2, 3, 4, 5, 6, 7, 1, 0] rfl ?_
              exact hk22
            · refine J_aload_n (pc := 59) hX 2 rfl dX7_copy_59 ?_
              refine g_X7_25 (pc := 60) hX ht0 dX7_copy_60 ?_
              refine J_iload_n (pc := 63) hX 3 rfl dX7_copy_63 ?_
              refine J_iald (pc := 64) hX (N := 8) (fs_7_11 t0 ht0) (by decide) dX7_copy_64 (fun h71 => ?_)
              refine J_aload_n (pc := 65) hX 2 rfl dX7_copy_65 ?_
              refine g_X7_25 (pc := 66) hX ht0 dX7_copy_66 ?_
              refine J_iload_n (pc := 69) hX 4 rfl dX7_copy_69 ?_
              refine J_iald (pc := 70) hX (N := 8) (fs_7_11 t0 ht0) (by decide) dX7_copy_70 (fun h72 => ?_)
              refine J_icmp_eq (pc := 71) hX (tgt := 81) (by decide) dX7_copy_71 (fun h73 => ?_) (fun h73 => ?_)
              · refine J_sub [2, 3, 4, 5, 6, 7, 1, 0] rfl ?_
                exact hk22
              · refine J_aload_n (pc := 74) hX 2 rfl dX7_copy_74 ?_
                refine J_bipush (pc := 75) hX (v := (-53 : Int32)) (by decide) dX7_copy_75 ?_
                refine J_call2 (fun y74 I75 e76 => ?_)
                refine jrun_i (pc := 77) (jRunV hX s_X7_127 (ci := 7) (T := TX7) (N := 20) (As := [ji (-53 : Int32)]) (rest := []) rfl (by decide) (C_X7_refuses Y hz0 t0 ht0 (-53 : Int32) I0 L0 y74 I75 e76) ht0 rfl rfl ⟨by decide, by decide⟩ ⟨Nat.le_of_ble_eq_true rfl, Nat.le_of_ble_eq_true rfl⟩ (Nat.le_of_ble_eq_true rfl) dX7_copy_77) ?_
                exact J_iret (pc := 80) hX (hQ _) dX7_copy_80
    · refine J_aload_n (pc := 14) hX 0 rfl dX7_copy_14 ?_
      refine J_bipush (pc := 15) hX (v := (-52 : Int32)) (by decide) dX7_copy_15 ?_
      refine J_call2 (fun y77 I78 e79 => ?_)
      refine jrun_i (pc := 17) (jRunV hX s_X7_127 (ci := 7) (T := TX7) (N := 20) (As := [ji (-52 : Int32)]) (rest := []) rfl (by decide) (C_X7_refuses Y hz0 t0 ht0 (-52 : Int32) I0 L0 y77 I78 e79) ht0 rfl rfl ⟨by decide, by decide⟩ ⟨Nat.le_of_ble_eq_true rfl, Nat.le_of_ble_eq_true rfl⟩ (Nat.le_of_ble_eq_true rfl) dX7_copy_17) ?_
      exact J_iret (pc := 20) hX (hQ _) dX7_copy_20
theorem C_X7_copy (Y : jY) (hz0 : Y.zf = false) (t0 : Nat) (ht0 : shC t0 = 8) (p0 : Int32) (p1 : Int32) (p2 : Int32) (p3 : Int32) (p4 : Int32) (I0 : jI) (L0 : jL) (r : Int32) (I1 : jI) (L1 : jL) (h : X7_copy t0 p0 p1 p2 p3 p4 I0 L0 = some (r, I1, L1)) : jMet Y yX7_copy cX7_copy 9 (some .int) 3 125 0 0 [jr t0, ji p0, ji p1, ji p2, ji p3, ji p4] NC shC rfC I0 L0 (some (ji r)) NC shC rfC I1 L1 :=
  jmet_of _ _ h (fun Z r => jQ Y Z 0 0 (some (ji r.1)) NC shC rfC r.2.1 r.2.2) (fun _ => rfl) (by decide) (Nat.le_of_ble_eq_true rfl) (fun Z hX => W_X7_copy hz0 t0 ht0 p0 p1 p2 p3 p4 I0 L0 hX (fun _ => rfl))
def X7_element (t0 : Nat) (p0 : Int32) (p1 : Int32) (I0 : jI) (L0 : jL) : Option (Int64) :=
(X7_isShelf p0).bind (fun (y1 : Int32) =>
if y1 = 0 then (
some (0 : Int64))
else (
(X7_amiss t0 p0 I0).bind (fun (y4 : Int32) =>
if y4 = 0 then (
if jin p0 8 then (
(X7_isIn ((p1).toInt64) (0 : Int64) ((((I0 (rfC t0 12) (p0).toNatClampNeg) - (1 : Int32))).toInt64)).bind (fun (y8 : Int32) =>
if y8 = 0 then (
some (0 : Int64))
else (
if jin (((40 : Int32) * p0) + p1) 320 then (
some (L0 (rfC t0 13) ((((40 : Int32) * p0) + p1)).toNatClampNeg)) else none))) else none)
else (
some (0 : Int64)))))
set_option maxRecDepth 20000 in
set_option maxHeartbeats 4000000 in
theorem W_X7_element {Y : jY} {Z : jZ} {Qf : Int64 → State → Prop} (hz0 : Y.zf = false) (t0 : Nat) (ht0 : shC t0 = 8) (p0 : Int32) (p1 : Int32) (I0 : jI) (L0 : jL) (hX : jOK Y Z RX7 cX7_element 3 "element" (some .long) 3 125 0 0) (hQ : ∀ r : Int64, Qf r = jQ Y Z 0 0 (some (jl r)) NC shC rfC I0 L0) : J Y Z 3 Qf (X7_element t0 p0 p1 I0 L0) 0 [(0, jr t0), (1, ji p0), (2, ji p1)] [] 0 0 NC shC rfC I0 L0 := by
  unfold X7_element
  refine J_iload_n (pc := 0) hX 1 rfl dX7_element_0 ?_
  refine J_call1 (fun y1 e2 => ?_)
  refine jrun_i (pc := 1) (jRunS hX s_X7_188 (As := [ji p0]) (rest := []) (C_X7_isShelf Y hz0 p0 I0 L0 y1 e2) rfl rfl ⟨by decide, by decide⟩ ⟨Nat.le_of_ble_eq_true rfl, Nat.le_of_ble_eq_true rfl⟩ (Nat.le_of_ble_eq_true rfl) dX7_element_1) ?_
  refine J_if_eq (pc := 4) hX (tgt := 47) (by decide) dX7_element_4 (fun h3 => ?_) (fun h3 => ?_)
  · refine J_lconst (pc := 47) hX (v := (0 : Int64)) (by decide) dX7_element_47 ?_
    exact J_lret (pc := 48) hX (hQ _) dX7_element_48
  · refine J_aload_n (pc := 7) hX 0 rfl dX7_element_7 ?_
    refine J_iload_n (pc := 8) hX 1 rfl dX7_element_8 ?_
    refine J_call1 (fun y4 e5 => ?_)
    refine jrun_i (pc := 9) (jRunV hX s_X7_195 (ci := 7) (T := TX7) (N := 20) (As := [ji p0]) (rest := []) rfl (by decide) (C_X7_amiss Y hz0 t0 ht0 p0 I0 L0 y4 e5) ht0 rfl rfl ⟨by decide, by decide⟩ ⟨Nat.le_of_ble_eq_true rfl, Nat.le_of_ble_eq_true rfl⟩ (Nat.le_of_ble_eq_true rfl) dX7_element_9) ?_
    refine J_if_ne (pc := 12) hX (tgt := 47) (by decide) dX7_element_12 (fun h6 => ?_) (fun h6 => ?_)
    · refine J_lconst (pc := 47) hX (v := (0 : Int64)) (by decide) dX7_element_47 ?_
      exact J_lret (pc := 48) hX (hQ _) dX7_element_48
    · refine J_iload_n (pc := 15) hX 2 rfl dX7_element_15 ?_
      refine J_i2l (pc := 16) hX dX7_element_16 ?_
      refine J_lconst (pc := 17) hX (v := (0 : Int64)) (by decide) dX7_element_17 ?_
      refine J_aload_n (pc := 18) hX 0 rfl dX7_element_18 ?_
      refine g_X7_28 (pc := 19) hX ht0 dX7_element_19 ?_
      refine J_iload_n (pc := 22) hX 1 rfl dX7_element_22 ?_
      refine J_iald (pc := 23) hX (N := 8) (fs_7_12 t0 ht0) (by decide) dX7_element_23 (fun h7 => ?_)
      refine J_iconst (pc := 24) hX (v := (1 : Int32)) (by decide) dX7_element_24 ?_
      refine J_isub (pc := 25) hX dX7_element_25 ?_
      refine J_i2l (pc := 26) hX dX7_element_26 ?_
      refine J_call1 (fun y8 e9 => ?_)
      refine jrun_i (pc := 27) (jRunS hX s_X7_47 (As := [jl ((p1).toInt64), jl (0 : Int64), jl ((((I0 (rfC t0 12) (p0).toNatClampNeg) - (1 : Int32))).toInt64)]) (rest := []) (C_X7_isIn Y hz0 ((p1).toInt64) (0 : Int64) ((((I0 (rfC t0 12) (p0).toNatClampNeg) - (1 : Int32))).toInt64) I0 L0 y8 e9) rfl rfl ⟨by decide, by decide⟩ ⟨Nat.le_of_ble_eq_true rfl, Nat.le_of_ble_eq_true rfl⟩ (Nat.le_of_ble_eq_true rfl) dX7_element_27) ?_
      refine J_if_eq (pc := 30) hX (tgt := 47) (by decide) dX7_element_30 (fun h10 => ?_) (fun h10 => ?_)
      · refine J_lconst (pc := 47) hX (v := (0 : Int64)) (by decide) dX7_element_47 ?_
        exact J_lret (pc := 48) hX (hQ _) dX7_element_48
      · refine J_aload_n (pc := 33) hX 0 rfl dX7_element_33 ?_
        refine g_X7_31 (pc := 34) hX ht0 dX7_element_34 ?_
        refine J_bipush (pc := 37) hX (v := (40 : Int32)) (by decide) dX7_element_37 ?_
        refine J_iload_n (pc := 39) hX 1 rfl dX7_element_39 ?_
        refine J_imul (pc := 40) hX dX7_element_40 ?_
        refine J_iload_n (pc := 41) hX 2 rfl dX7_element_41 ?_
        refine J_iadd (pc := 42) hX dX7_element_42 ?_
        refine J_lald (pc := 43) hX (N := 320) (fs_7_13 t0 ht0) (by decide) dX7_element_43 (fun h11 => ?_)
        refine J_goto (pc := 44) hX (tgt := 48) (by decide) dX7_element_44 ?_
        exact J_lret (pc := 48) hX (hQ _) dX7_element_48
theorem C_X7_element (Y : jY) (hz0 : Y.zf = false) (t0 : Nat) (ht0 : shC t0 = 8) (p0 : Int32) (p1 : Int32) (I0 : jI) (L0 : jL) (r : Int64) (h : X7_element t0 p0 p1 I0 L0 = some r) : jMet Y yX7_element cX7_element 3 (some .long) 3 125 0 0 [jr t0, ji p0, ji p1] NC shC rfC I0 L0 (some (jl r)) NC shC rfC I0 L0 :=
  jmet_of _ _ h (fun Z r => jQ Y Z 0 0 (some (jl r)) NC shC rfC I0 L0) (fun _ => rfl) (by decide) (Nat.le_of_ble_eq_true rfl) (fun Z hX => W_X7_element hz0 t0 ht0 p0 p1 I0 L0 hX (fun _ => rfl))
def X7_holds (t0 : Nat) (p0 : Int32) (I0 : jI) : Option (Int32) :=
(X7_isShelf p0).bind (fun (y1 : Int32) =>
if y1 = 0 then (
some (-1 : Int32))
else (
if jin p0 8 then (
some (I0 (rfC t0 11) (p0).toNatClampNeg)) else none))
set_option maxRecDepth 20000 in
set_option maxHeartbeats 4000000 in
theorem W_X7_holds {Y : jY} {Z : jZ} {Qf : Int32 → State → Prop} (hz0 : Y.zf = false) (t0 : Nat) (ht0 : shC t0 = 8) (p0 : Int32) (I0 : jI) (L0 : jL) (hX : jOK Y Z RX7 cX7_holds 2 "holds" (some .int) 3 125 0 0) (hQ : ∀ r : Int32, Qf r = jQ Y Z 0 0 (some (ji r)) NC shC rfC I0 L0) : J Y Z 2 Qf (X7_holds t0 p0 I0) 0 [(0, jr t0), (1, ji p0)] [] 0 0 NC shC rfC I0 L0 := by
  unfold X7_holds
  refine J_iload_n (pc := 0) hX 1 rfl dX7_holds_0 ?_
  refine J_call1 (fun y1 e2 => ?_)
  refine jrun_i (pc := 1) (jRunS hX s_X7_188 (As := [ji p0]) (rest := []) (C_X7_isShelf Y hz0 p0 I0 L0 y1 e2) rfl rfl ⟨by decide, by decide⟩ ⟨Nat.le_of_ble_eq_true rfl, Nat.le_of_ble_eq_true rfl⟩ (Nat.le_of_ble_eq_true rfl) dX7_holds_1) ?_
  refine J_if_eq (pc := 4) hX (tgt := 16) (by decide) dX7_holds_4 (fun h3 => ?_) (fun h3 => ?_)
  · refine J_iconst (pc := 16) hX (v := (-1 : Int32)) (by decide) dX7_holds_16 ?_
    exact J_iret (pc := 17) hX (hQ _) dX7_holds_17
  · refine J_aload_n (pc := 7) hX 0 rfl dX7_holds_7 ?_
    refine g_X7_25 (pc := 8) hX ht0 dX7_holds_8 ?_
    refine J_iload_n (pc := 11) hX 1 rfl dX7_holds_11 ?_
    refine J_iald (pc := 12) hX (N := 8) (fs_7_11 t0 ht0) (by decide) dX7_holds_12 (fun h4 => ?_)
    refine J_goto (pc := 13) hX (tgt := 17) (by decide) dX7_holds_13 ?_
    exact J_iret (pc := 17) hX (hQ _) dX7_holds_17
theorem C_X7_holds (Y : jY) (hz0 : Y.zf = false) (t0 : Nat) (ht0 : shC t0 = 8) (p0 : Int32) (I0 : jI) (L0 : jL) (r : Int32) (h : X7_holds t0 p0 I0 = some r) : jMet Y yX7_holds cX7_holds 2 (some .int) 3 125 0 0 [jr t0, ji p0] NC shC rfC I0 L0 (some (ji r)) NC shC rfC I0 L0 :=
  jmet_of _ _ h (fun Z r => jQ Y Z 0 0 (some (ji r)) NC shC rfC I0 L0) (fun _ => rfl) (by decide) (Nat.le_of_ble_eq_true rfl) (fun Z hX => W_X7_holds hz0 t0 ht0 p0 I0 L0 hX (fun _ => rfl))
def X7_show (t0 : Nat) (p0 : Int32) (p1 : Int32) (I0 : jI) : Option (Int32 × jI) :=
(X7_isShelf p0).bind (fun (y1 : Int32) =>
if y1 = 0 then (
jb2 (X7_refuses t0 (-52 : Int32) I0) (fun (y4 : Int32) (I5 : jI) =>
some (y4, I5)))
else (
jlet (
jlet (if p1 = (-1 : Int32) then (-1 : Int32) else ((10 : Int32) + p1)) (fun (y9 : Int32) =>
if jin p0 8 then jlet (jup I0 (rfC t0 11) (p0).toNatClampNeg y9) (fun (I11 : jI) =>
some ((1 : Int32), I11)) else none)) (fun (k7 : Option (Int32 × jI)) =>
if p1 = (-1 : Int32) then (
k7)
else (
(X7_isLevel t0 p1 I0).bind (fun (y13 : Int32) =>
if y13 = 0 then (
jb2 (X7_refuses t0 (-52 : Int32) I0) (fun (y16 : Int32) (I17 : jI) =>
some (y16, I17)))
else (
k7))))))
set_option maxRecDepth 20000 in
set_option maxHeartbeats 4000000 in
theorem W_X7_show {Y : jY} {Z : jZ} {Qf : Int32 × jI → State → Prop} (hz0 : Y.zf = false) (t0 : Nat) (ht0 : shC t0 = 8) (p0 : Int32) (p1 : Int32) (I0 : jI) (L0 : jL) (hX : jOK Y Z RX7 cX7_show 3 "show" (some .int) 3 126 0 0) (hQ : ∀ r : Int32 × jI, Qf r = jQ Y Z 0 0 (some (ji r.1)) NC shC rfC r.2 L0) : J Y Z 3 Qf (X7_show t0 p0 p1 I0) 0 [(0, jr t0), (1, ji p0), (2, ji p1)] [] 0 0 NC shC rfC I0 L0 := by
  unfold X7_show
  refine J_iload_n (pc := 0) hX 1 rfl dX7_show_0 ?_
  refine J_call1 (fun y1 e2 => ?_)
  refine jrun_i (pc := 1) (jRunS hX s_X7_188 (As := [ji p0]) (rest := []) (C_X7_isShelf Y hz0 p0 I0 L0 y1 e2) rfl rfl ⟨by decide, by decide⟩ ⟨Nat.le_of_ble_eq_true rfl, Nat.le_of_ble_eq_true rfl⟩ (Nat.le_of_ble_eq_true rfl) dX7_show_1) ?_
  refine J_if_eq (pc := 4) hX (tgt := 20) (by decide) dX7_show_4 (fun h3 => ?_) (fun h3 => ?_)
  · refine J_aload_n (pc := 20) hX 0 rfl dX7_show_20 ?_
    refine J_bipush (pc := 21) hX (v := (-52 : Int32)) (by decide) dX7_show_21 ?_
    refine J_call2 (fun y4 I5 e6 => ?_)
    refine jrun_i (pc := 23) (jRunV hX s_X7_127 (ci := 7) (T := TX7) (N := 20) (As := [ji (-52 : Int32)]) (rest := []) rfl (by decide) (C_X7_refuses Y hz0 t0 ht0 (-52 : Int32) I0 L0 y4 I5 e6) ht0 rfl rfl ⟨by decide, by decide⟩ ⟨Nat.le_of_ble_eq_true rfl, Nat.le_of_ble_eq_true rfl⟩ (Nat.le_of_ble_eq_true rfl) dX7_show_23) ?_
    exact J_iret (pc := 26) hX (hQ _) dX7_show_26
  · refine J_iload_n (pc := 7) hX 2 rfl dX7_show_7 ?_
    refine J_iconst (pc := 8) hX (v := (-1 : Int32)) (by decide) dX7_show_8 ?_
    refine J_join (fun (k7 : Option (Int32 × jI)) => J Y Z 3 Qf (k7) 27 [(0, jr t0), (1, ji p0), (2, ji p1)] [] 0 0 NC shC rfC I0 L0) ?_ (fun k7 hk7 => ?_)
    · refine J_aload_n (pc := 27) hX 0 rfl dX7_show_27 ?_
      refine g_X7_25 (pc := 28) hX ht0 dX7_show_28 ?_
      refine J_iload_n (pc := 31) hX 1 rfl dX7_show_31 ?_
      refine J_iload_n (pc := 32) hX 2 rfl dX7_show_32 ?_
      refine J_iconst (pc := 33) hX (v := (-1 : Int32)) (by decide) dX7_show_33 ?_
      refine J_vjoin (fun kq (y9 : Int32) => J Y Z 3 Qf (kq) 45 [(0, jr t0), (1, ji p0), (2, ji p1)] [ji y9, ji p0, jr (rfC t0 11)] 0 0 NC shC rfC I0 L0) (fun y9 => ?_) (fun hj => ?_)
      · try dsimp only
        refine J_iast (pc := 45) hX (N := 8) (fs_7_11 t0 ht0) (by decide) dX7_show_45 (fun h10 I11 => ?_)
        refine J_iconst (pc := 46) hX (v := (1 : Int32)) (by decide) dX7_show_46 ?_
        exact J_iret (pc := 47) hX (hQ _) dX7_show_47
      try dsimp only at hj
      refine J_icmp_neV (pc := 34) hX (tgt := 41) (by decide) dX7_show_34 (fun h8 => ?_) (fun h8 => ?_)
      · refine J_bipush (pc := 41) hX (v := (10 : Int32)) (by decide) dX7_show_41 ?_
        refine J_iload_n (pc := 43) hX 2 rfl dX7_show_43 ?_
        refine J_iadd (pc := 44) hX dX7_show_44 ?_
        exact hj _
      · refine J_iconst (pc := 37) hX (v := (-1 : Int32)) (by decide) dX7_show_37 ?_
        refine J_goto (pc := 38) hX (tgt := 45) (by decide) dX7_show_38 ?_
        exact hj _
    refine J_icmp_eq (pc := 9) hX (tgt := 27) (by decide) dX7_show_9 (fun h12 => ?_) (fun h12 => ?_)
    · exact hk7
    · refine J_aload_n (pc := 12) hX 0 rfl dX7_show_12 ?_
      refine J_iload_n (pc := 13) hX 2 rfl dX7_show_13 ?_
      refine J_call1 (fun y13 e14 => ?_)
      refine jrun_i (pc := 14) (jRunV hX s_X7_147 (ci := 7) (T := TX7) (N := 20) (As := [ji p1]) (rest := []) rfl (by decide) (C_X7_isLevel Y hz0 t0 ht0 p1 I0 L0 y13 e14) ht0 rfl rfl ⟨by decide, by decide⟩ ⟨Nat.le_of_ble_eq_true rfl, Nat.le_of_ble_eq_true rfl⟩ (Nat.le_of_ble_eq_true rfl) dX7_show_14) ?_
      refine J_if_ne (pc := 17) hX (tgt := 27) (by decide) dX7_show_17 (fun h15 => ?_) (fun h15 => ?_)
      · exact hk7
      · refine J_aload_n (pc := 20) hX 0 rfl dX7_show_20 ?_
        refine J_bipush (pc := 21) hX (v := (-52 : Int32)) (by decide) dX7_show_21 ?_
        refine J_call2 (fun y16 I17 e18 => ?_)
        refine jrun_i (pc := 23) (jRunV hX s_X7_127 (ci := 7) (T := TX7) (N := 20) (As := [ji (-52 : Int32)]) (rest := []) rfl (by decide) (C_X7_refuses Y hz0 t0 ht0 (-52 : Int32) I0 L0 y16 I17 e18) ht0 rfl rfl ⟨by decide, by decide⟩ ⟨Nat.le_of_ble_eq_true rfl, Nat.le_of_ble_eq_true rfl⟩ (Nat.le_of_ble_eq_true rfl) dX7_show_23) ?_
        exact J_iret (pc := 26) hX (hQ _) dX7_show_26
theorem C_X7_show (Y : jY) (hz0 : Y.zf = false) (t0 : Nat) (ht0 : shC t0 = 8) (p0 : Int32) (p1 : Int32) (I0 : jI) (L0 : jL) (r : Int32) (I1 : jI) (h : X7_show t0 p0 p1 I0 = some (r, I1)) : jMet Y yX7_show cX7_show 3 (some .int) 3 126 0 0 [jr t0, ji p0, ji p1] NC shC rfC I0 L0 (some (ji r)) NC shC rfC I1 L0 :=
  jmet_of _ _ h (fun Z r => jQ Y Z 0 0 (some (ji r.1)) NC shC rfC r.2 L0) (fun _ => rfl) (by decide) (Nat.le_of_ble_eq_true rfl) (fun Z hX => W_X7_show hz0 t0 ht0 p0 p1 I0 L0 hX (fun _ => rfl))
def X7_isUnder (p0 : Int32) (p1 : Int32) : Option (Int32) :=
jlet (
some (1 : Int32)) (fun (k1 : Option (Int32)) =>
if p1 = 0 then (
k1)
else (
if p1 = p0 then (
k1)
else (
jlet (
jlet (
if p1 = (4 : Int32) then (
if p0 = (5 : Int32) then (
k1)
else (
if p0 = (6 : Int32) then (
k1)
else (
some (0 : Int32))))
else (
some (0 : Int32))) (fun (k5 : Option (Int32)) =>
if p1 = (2 : Int32) then (
if (6 : Int32) < p0 then (
k1)
else (
k5))
else (
k5))) (fun (k4 : Option (Int32)) =>
if p1 = (1 : Int32) then (
if p0 < (7 : Int32) then (
k1)
else (
k4))
else (
k4)))))
set_option maxRecDepth 20000 in
set_option maxHeartbeats 4000000 in
theorem W_X7_isUnder {Y : jY} {Z : jZ} {Qf : Int32 → State → Prop} (hz0 : Y.zf = false) (p0 : Int32) (p1 : Int32) (I0 : jI) (L0 : jL) (hX : jOK Y Z RX7 cX7_isUnder 2 "isUnder" (some .boolean) 1 80 0 0) (hQ : ∀ r : Int32, Qf r = jQ Y Z 0 0 (some (ji r)) NC shC rfC I0 L0) : J Y Z 2 Qf (X7_isUnder p0 p1) 0 [(0, ji p0), (1, ji p1)] [] 0 0 NC shC rfC I0 L0 := by
  unfold X7_isUnder
  refine J_iload_n (pc := 0) hX 1 rfl dX7_isUnder_0 ?_
  refine J_join (fun (k1 : Option (Int32)) => J Y Z 2 Qf (k1) 47 [] [] 0 0 NC shC rfC I0 L0) ?_ (fun k1 hk1 => ?_)
  · refine J_iconst (pc := 47) hX (v := (1 : Int32)) (by decide) dX7_isUnder_47 ?_
    refine J_goto (pc := 48) hX (tgt := 52) (by decide) dX7_isUnder_48 ?_
    exact J_zret (pc := 52) hX (by decide) (hQ _) dX7_isUnder_52
  refine J_if_eq (pc := 1) hX (tgt := 47) (by decide) dX7_isUnder_1 (fun h2 => ?_) (fun h2 => ?_)
  · refine J_sub [] rfl ?_
    exact hk1
  · refine J_iload_n (pc := 4) hX 1 rfl dX7_isUnder_4 ?_
    refine J_iload_n (pc := 5) hX 0 rfl dX7_isUnder_5 ?_
    refine J_icmp_eq (pc := 6) hX (tgt := 47) (by decide) dX7_isUnder_6 (fun h3 => ?_) (fun h3 => ?_)
    · refine J_sub [] rfl ?_
      exact hk1
    · refine J_iload_n (pc := 9) hX 1 rfl dX7_isUnder_9 ?_
      refine J_iconst (pc := 10) hX (v := (1 : Int32)) (by decide) dX7_isUnder_10 ?_
      refine J_join (fun (k4 : Option (Int32)) => J Y Z 2 Qf (k4) 20 [(0, ji p0), (1, ji p1)] [] 0 0 NC shC rfC I0 L0) ?_ (fun k4 hk4 => ?_)
      · refine J_iload_n (pc := 20) hX 1 rfl dX7_isUnder_20 ?_
        refine J_iconst (pc := 21) hX (v := (2 : Int32)) (by decide) dX7_isUnder_21 ?_
        refine J_join (fun (k5 : Option (Int32)) => J Y Z 2 Qf (k5) 31 [(0, ji p0), (1, ji p1)] [] 0 0 NC shC rfC I0 L0) ?_ (fun k5 hk5 => ?_)
        · refine J_iload_n (pc := 31) hX 1 rfl dX7_isUnder_31 ?_
          refine J_iconst (pc := 32) hX (v := (4 : Int32)) (by decide) dX7_isUnder_32 ?_
          refine J_icmp_ne (pc := 33) hX (tgt := 51) (by decide) dX7_isUnder_33 (fun h6 => ?_) (fun h6 => ?_)
          · refine J_iconst (pc := 51) hX (v := (0 : Int32)) (by decide) dX7_isUnder_51 ?_
            exact J_zret (pc := 52) hX (by decide) (hQ _) dX7_isUnder_52
          · refine J_iload_n (pc := 36) hX 0 rfl dX7_isUnder_36 ?_
            refine J_iconst (pc := 37) hX (v := (5 : Int32)) (by decide) dX7_isUnder_37 ?_
            refine J_icmp_eq (pc := 38) hX (tgt := 47) (by decide) dX7_isUnder_38 (fun h7 => ?_) (fun h7 => ?_)
            · refine J_sub [] rfl ?_
              exact hk1
            · refine J_iload_n (pc := 41) hX 0 rfl dX7_isUnder_41 ?_
              refine J_bipush (pc := 42) hX (v := (6 : Int32)) (by decide) dX7_isUnder_42 ?_
              refine J_icmp_ne (pc := 44) hX (tgt := 51) (by decide) dX7_isUnder_44 (fun h8 => ?_) (fun h8 => ?_)
              · refine J_iconst (pc := 51) hX (v := (0 : Int32)) (by decide) dX7_isUnder_51 ?_
                exact J_zret (pc := 52) hX (by decide) (hQ _) dX7_isUnder_52
              · refine J_sub [] rfl ?_
                exact hk1
        refine J_icmp_ne (pc := 22) hX (tgt := 31) (by decide) dX7_isUnder_22 (fun h9 => ?_) (fun h9 => ?_)
        · exact hk5
        · refine J_iload_n (pc := 25) hX 0 rfl dX7_isUnder_25 ?_
          refine J_bipush (pc := 26) hX (v := (6 : Int32)) (by decide) dX7_isUnder_26 ?_
          refine J_icmp_gt (pc := 28) hX (tgt := 47) (by decide) dX7_isUnder_28 (fun h10 => ?_) (fun h10 => ?_)
          · refine J_sub [] rfl ?_
            exact hk1
          · exact hk5
      refine J_icmp_ne (pc := 11) hX (tgt := 20) (by decide) dX7_isUnder_11 (fun h11 => ?_) (fun h11 => ?_)
      · exact hk4
      · refine J_iload_n (pc := 14) hX 0 rfl dX7_isUnder_14 ?_
        refine J_bipush (pc := 15) hX (v := (7 : Int32)) (by decide) dX7_isUnder_15 ?_
        refine J_icmp_lt (pc := 17) hX (tgt := 47) (by decide) dX7_isUnder_17 (fun h12 => ?_) (fun h12 => ?_)
        · refine J_sub [] rfl ?_
          exact hk1
        · exact hk4
theorem C_X7_isUnder (Y : jY) (hz0 : Y.zf = false) (p0 : Int32) (p1 : Int32) (I0 : jI) (L0 : jL) (r : Int32) (h : X7_isUnder p0 p1 = some r) : jMet Y yX7_isUnder cX7_isUnder 2 (some .boolean) 1 80 0 0 [ji p0, ji p1] NC shC rfC I0 L0 (some (ji r)) NC shC rfC I0 L0 :=
  jmet_of _ _ h (fun Z r => jQ Y Z 0 0 (some (ji r)) NC shC rfC I0 L0) (fun _ => rfl) (by decide) (Nat.le_of_ble_eq_true rfl) (fun Z hX => W_X7_isUnder hz0 p0 p1 I0 L0 hX (fun _ => rfl))
def X7_extreme_F1 (t0 : Nat) (p0 : Int32) (p1 : Int32) (p2 : Int32) (I0 : jI) (g3 : Int32 → Int32 → Option (Int32)) : Int32 → Int32 → Option (Int32) := fun (v1 : Int32) (v2 : Int32) =>
(X7_of t0 p0 (0 : Int32) I0).bind (fun (y4 : Int32) =>
if y4 ≤ v2 then (
some v1)
else (
(X7_note t0 p0 v2 (0 : Int32) I0).bind (fun (y7 : Int32) =>
jlet (fun (v9 : Int32) =>
g3 v9 (v2 + (1 : Int32))) (fun (k10 : Int32 → Option (Int32)) =>
if y7 < 0 then (
k10 v1)
else (
(X7_note t0 p0 v2 p1 I0).bind (fun (y12 : Int32) =>
jlet (if v1 < 0 then y12 else (if (p2 * (y12 - v1)) ≤ 0 then v1 else y12)) (fun (y16 : Int32) =>
k10 y16)))))))
def X7_extreme (t0 : Nat) (p0 : Int32) (p1 : Int32) (p2 : Int32) (I0 : jI) : Option (Int32) :=
jfx (X7_extreme_F1 t0 p0 p1 p2 I0) (fun _ _ => none) 1000 (-1 : Int32) (0 : Int32)
set_option maxRecDepth 20000 in
set_option maxHeartbeats 4000000 in
theorem W_X7_extreme {Y : jY} {Z : jZ} {Qf : Int32 → State → Prop} (hz0 : Y.zf = false) (t0 : Nat) (ht0 : shC t0 = 8) (p0 : Int32) (p1 : Int32) (p2 : Int32) (I0 : jI) (L0 : jL) (hX : jOK Y Z RX7 cX7_extreme 7 "extreme" (some .int) 3 125 0 0) (hQ : ∀ r : Int32, Qf r = jQ Y Z 0 0 (some (ji r)) NC shC rfC I0 L0) : J Y Z 7 Qf (X7_extreme t0 p0 p1 p2 I0) 0 [(0, jr t0), (1, ji p0), (2, ji p1), (3, ji p2)] [] 0 0 NC shC rfC I0 L0 := by
  unfold X7_extreme
  refine J_iconst (pc := 0) hX (v := (-1 : Int32)) (by decide) dX7_extreme_0 ?_
  refine J_istore (pc := 1) hX (lo' := [(4, ji (-1 : Int32)), (0, jr t0), (1, ji p0), (2, ji p1), (3, ji p2)]) (by decide) rfl dX7_extreme_1 ?_
  refine J_iconst (pc := 3) hX (v := (0 : Int32)) (by decide) dX7_extreme_3 ?_
  refine J_istore (pc := 4) hX (lo' := [(5, ji (0 : Int32)), (4, ji (-1 : Int32)), (0, jr t0), (1, ji p0), (2, ji p1), (3, ji p2)]) (by decide) rfl dX7_extreme_4 ?_
  have lhg3 : ∀ mq : Nat, ∀ (v1 : Int32) (v2 : Int32), J Y Z 7 Qf (jfx (X7_extreme_F1 t0 p0 p1 p2 I0) (fun _ _ => none) mq v1 v2) 6 [(0, jr t0), (1, ji p0), (2, ji p1), (3, ji p2), (4, ji v1), (5, ji v2)] [] 0 0 NC shC rfC I0 L0 := by
    intro mq
    refine jfx_J (fun (_ : Nat) (g3 : Int32 → Int32 → Option (Int32)) => ∀ (v1 : Int32) (v2 : Int32), J Y Z 7 Qf (g3 v1 v2) 6 [(0, jr t0), (1, ji p0), (2, ji p1), (3, ji p2), (4, ji v1), (5, ji v2)] [] 0 0 NC shC rfC I0 L0) ?_ (fun _ g3 hg3 => ?_) mq
    · intro v1 v2
      exact J_none
    intro v1 v2
    unfold X7_extreme_F1
    try dsimp only
    refine J_iload (pc := 6) hX 5 rfl dX7_extreme_6 ?_
    refine J_aload_n (pc := 8) hX 0 rfl dX7_extreme_8 ?_
    refine J_iload_n (pc := 9) hX 1 rfl dX7_extreme_9 ?_
    refine J_iconst (pc := 10) hX (v := (0 : Int32)) (by decide) dX7_extreme_10 ?_
    refine J_call1 (fun y4 e5 => ?_)
    refine jrun_i (pc := 11) (jRunV hX s_X7_59 (ci := 7) (T := TX7) (N := 20) (As := [ji p0, ji (0 : Int32)]) (rest := [ji v2]) rfl (by decide) (C_X7_of Y hz0 t0 ht0 p0 (0 : Int32) I0 L0 y4 e5) ht0 rfl rfl ⟨by decide, by decide⟩ ⟨Nat.le_of_ble_eq_true rfl, Nat.le_of_ble_eq_true rfl⟩ (Nat.le_of_ble_eq_true rfl) dX7_extreme_11) ?_
    refine J_icmp_ge (pc := 14) hX (tgt := 68) (by decide) dX7_extreme_14 (fun h6 => ?_) (fun h6 => ?_)
    · refine J_iload (pc := 68) hX 4 rfl dX7_extreme_68 ?_
      exact J_iret (pc := 70) hX (hQ _) dX7_extreme_70
    · refine J_aload_n (pc := 17) hX 0 rfl dX7_extreme_17 ?_
      refine J_iload_n (pc := 18) hX 1 rfl dX7_extreme_18 ?_
      refine J_iload (pc := 19) hX 5 rfl dX7_extreme_19 ?_
      refine J_iconst (pc := 21) hX (v := (0 : Int32)) (by decide) dX7_extreme_21 ?_
      refine J_call1 (fun y7 e8 => ?_)
      refine jrun_i (pc := 22) (jRunV hX s_X7_62 (ci := 7) (T := TX7) (N := 20) (As := [ji p0, ji v2, ji (0 : Int32)]) (rest := []) rfl (by decide) (C_X7_note Y hz0 t0 ht0 p0 v2 (0 : Int32) I0 L0 y7 e8) ht0 rfl rfl ⟨by decide, by decide⟩ ⟨Nat.le_of_ble_eq_true rfl, Nat.le_of_ble_eq_true rfl⟩ (Nat.le_of_ble_eq_true rfl) dX7_extreme_22) ?_
      refine J_join (fun (k10 : Int32 → Option (Int32)) => ∀ (v9 : Int32), J Y Z 7 Qf (k10 v9) 62 [(0, jr t0), (1, ji p0), (2, ji p1), (3, ji p2), (4, ji v9), (5, ji v2)] [] 0 0 NC shC rfC I0 L0) ?_ (fun k10 hk10 => ?_)
      · intro v9
        try dsimp only
        refine J_iinc (pc := 62) hX (v := (v2 + (1 : Int32))) (lo' := [(5, ji (v2 + (1 : Int32))), (0, jr t0), (1, ji p0), (2, ji p1), (3, ji p2), (4, ji v9)]) 5 rfl (by rfl) (by decide) rfl dX7_extreme_62 ?_
        refine J_goto (pc := 65) hX (tgt := 6) (by decide) dX7_extreme_65 ?_
        refine J_sub [1, 2, 3, 4, 5, 0] rfl ?_
        exact hg3 v9 (v2 + (1 : Int32))
      refine J_if_lt (pc := 25) hX (tgt := 62) (by decide) dX7_extreme_25 (fun h11 => ?_) (fun h11 => ?_)
      · exact hk10 v1
      · refine J_aload_n (pc := 28) hX 0 rfl dX7_extreme_28 ?_
        refine J_iload_n (pc := 29) hX 1 rfl dX7_extreme_29 ?_
        refine J_iload (pc := 30) hX 5 rfl dX7_extreme_30 ?_
        refine J_iload_n (pc := 32) hX 2 rfl dX7_extreme_32 ?_
        refine J_call1 (fun y12 e13 => ?_)
        refine jrun_i (pc := 33) (jRunV hX s_X7_62 (ci := 7) (T := TX7) (N := 20) (As := [ji p0, ji v2, ji p1]) (rest := []) rfl (by decide) (C_X7_note Y hz0 t0 ht0 p0 v2 p1 I0 L0 y12 e13) ht0 rfl rfl ⟨by decide, by decide⟩ ⟨Nat.le_of_ble_eq_true rfl, Nat.le_of_ble_eq_true rfl⟩ (Nat.le_of_ble_eq_true rfl) dX7_extreme_33) ?_
        refine J_istore (pc := 36) hX (lo' := [(6, ji y12), (0, jr t0), (1, ji p0), (2, ji p1), (3, ji p2), (4, ji v1), (5, ji v2)]) (by decide) rfl dX7_extreme_36 ?_
        refine J_iload (pc := 38) hX 5 rfl dX7_extreme_38 ?_
        refine J_vjoin (fun kq (y16 : Int32) => J Y Z 7 Qf (kq) 60 [(6, ji y12), (0, jr t0), (1, ji p0), (2, ji p1), (3, ji p2), (4, ji v1), (5, ji v2)] [ji y16] 0 0 NC shC rfC I0 L0) (fun y16 => ?_) (fun hj => ?_)
        · try dsimp only
          refine J_istore (pc := 60) hX (lo' := [(4, ji y16), (6, ji y12), (0, jr t0), (1, ji p0), (2, ji p1), (3, ji p2), (5, ji v2)]) (by decide) rfl dX7_extreme_60 ?_
          refine J_sub [2, 3, 4, 5, 0, 6] rfl ?_
          exact hk10 y16
        try dsimp only at hj
        refine J_if_ltV (pc := 40) hX (tgt := 53) (by decide) dX7_extreme_40 (fun h15 => ?_) (fun h15 => ?_)
        · refine J_iload (pc := 53) hX 0 rfl dX7_extreme_53 ?_
          refine J_goto (pc := 55) hX (tgt := 60) (by decide) dX7_extreme_55 ?_
          exact hj _
        · refine J_iload_n (pc := 43) hX 4 rfl dX7_extreme_43 ?_
          refine J_iload (pc := 44) hX 0 rfl dX7_extreme_44 ?_
          refine J_iload (pc := 46) hX 5 rfl dX7_extreme_46 ?_
          refine J_isub (pc := 48) hX dX7_extreme_48 ?_
          refine J_imul (pc := 49) hX dX7_extreme_49 ?_
          refine J_if_leV (pc := 50) hX (tgt := 58) (by decide) dX7_extreme_50 (fun h14 => ?_) (fun h14 => ?_)
          · refine J_iload (pc := 58) hX 5 rfl dX7_extreme_58 ?_
            exact hj _
          · refine J_iload (pc := 53) hX 0 rfl dX7_extreme_53 ?_
            refine J_goto (pc := 55) hX (tgt := 60) (by decide) dX7_extreme_55 ?_
            exact hj _
  refine J_sub [2, 3, 4, 5, 1, 0] rfl ?_
  exact lhg3 1000 (-1 : Int32) (0 : Int32)
theorem C_X7_extreme (Y : jY) (hz0 : Y.zf = false) (t0 : Nat) (ht0 : shC t0 = 8) (p0 : Int32) (p1 : Int32) (p2 : Int32) (I0 : jI) (L0 : jL) (r : Int32) (h : X7_extreme t0 p0 p1 p2 I0 = some r) : jMet Y yX7_extreme cX7_extreme 7 (some .int) 3 125 0 0 [jr t0, ji p0, ji p1, ji p2] NC shC rfC I0 L0 (some (ji r)) NC shC rfC I0 L0 :=
  jmet_of _ _ h (fun Z r => jQ Y Z 0 0 (some (ji r)) NC shC rfC I0 L0) (fun _ => rfl) (by decide) (Nat.le_of_ble_eq_true rfl) (fun Z hX => W_X7_extreme hz0 t0 ht0 p0 p1 p2 I0 L0 hX (fun _ => rfl))
def X7_says (t0 : Nat) (p0 : Int32) (p1 : Int32) (I0 : jI) : Option (Int32 × jI) :=
(X7_isShelf p0).bind (fun (y1 : Int32) =>
if y1 = 0 then (
jb2 (X7_refuses t0 (-52 : Int32) I0) (fun (y4 : Int32) (I5 : jI) =>
some (y4, I5)))
else (
(X7_isIn ((p1).toInt64) (0 : Int64) (8 : Int64)).bind (fun (y7 : Int32) =>
if y7 = 0 then (
jb2 (X7_refuses t0 (-52 : Int32) I0) (fun (y58 : Int32) (I59 : jI) =>
some (y58, I59)))
else (
if jin p0 8 then (
(X7_isIn (((I0 (rfC t0 11) (p0).toNatClampNeg)).toInt64) (0 : Int64) (4 : Int64)).bind (fun (y11 : Int32) =>
if y11 = 0 then (
if jin p0 8 then (
if 0 ≤ (I0 (rfC t0 11) (p0).toNatClampNeg) then (
if jin p0 8 then (
jlet (((I0 (rfC t0 11) (p0).toNatClampNeg) - (11 : Int32))) (fun (y17 : Int32) =>
(X7_of t0 y17 (2 : Int32) I0).bind (fun (y18 : Int32) =>
(X7_isUnder y18 p1).bind (fun (y20 : Int32) =>
if y20 = 0 then (
jb2 (X7_refuses t0 (-53 : Int32) I0) (fun (y49 : Int32) (I50 : jI) =>
some (y49, I50)))
else (
if p1 = (0 : Int32) then (
(X7_of t0 y17 (2 : Int32) I0).bind (fun (y24 : Int32) =>
some (y24, I0)))
else if p1 = (1 : Int32) then (
(X7_noted t0 y17 I0).bind (fun (y27 : Int32) =>
some (y27, I0)))
else if p1 = (2 : Int32) then (
(X7_of t0 y17 (0 : Int32) I0).bind (fun (y30 : Int32) =>
some (y30, I0)))
else if p1 = (3 : Int32) then (
(X7_extreme t0 y17 (3 : Int32) (1 : Int32) I0).bind (fun (y33 : Int32) =>
some (y33, I0)))
else if p1 = (4 : Int32) then (
(X7_extreme t0 y17 (4 : Int32) (-1 : Int32) I0).bind (fun (y36 : Int32) =>
some (y36, I0)))
else if p1 = (5 : Int32) then (
(X7_extreme t0 y17 (4 : Int32) (1 : Int32) I0).bind (fun (y39 : Int32) =>
some (y39, I0)))
else if p1 = (6 : Int32) then (
(X7_extreme t0 y17 (5 : Int32) (-1 : Int32) I0).bind (fun (y42 : Int32) =>
some (y42, I0)))
else if p1 = (7 : Int32) then (
(X7_of t0 y17 (3 : Int32) I0).bind (fun (y45 : Int32) =>
some (y45, I0)))
else (
(X7_of t0 y17 (9 : Int32) I0).bind (fun (y47 : Int32) =>
some (y47, I0)))))))) else none)
else (
jb2 (X7_refuses t0 (-54 : Int32) I0) (fun (y52 : Int32) (I53 : jI) =>
some (y52, I53)))) else none)
else (
jb2 (X7_refuses t0 (-53 : Int32) I0) (fun (y55 : Int32) (I56 : jI) =>
some (y55, I56))))) else none))))
set_option maxRecDepth 20000 in
set_option maxHeartbeats 4000000 in
theorem W_X7_says {Y : jY} {Z : jZ} {Qf : Int32 × jI → State → Prop} (hz0 : Y.zf = false) (t0 : Nat) (ht0 : shC t0 = 8) (p0 : Int32) (p1 : Int32) (I0 : jI) (L0 : jL) (hX : jOK Y Z RX7 cX7_says 4 "says" (some .int) 4 151 0 0) (hQ : ∀ r : Int32 × jI, Qf r = jQ Y Z 0 0 (some (ji r.1)) NC shC rfC r.2 L0) : J Y Z 4 Qf (X7_says t0 p0 p1 I0) 0 [(0, jr t0), (1, ji p0), (2, ji p1)] [] 0 0 NC shC rfC I0 L0 := by
  unfold X7_says
  refine J_iload_n (pc := 0) hX 1 rfl dX7_says_0 ?_
  refine J_call1 (fun y1 e2 => ?_)
  refine jrun_i (pc := 1) (jRunS hX s_X7_188 (As := [ji p0]) (rest := []) (C_X7_isShelf Y hz0 p0 I0 L0 y1 e2) rfl rfl ⟨by decide, by decide⟩ ⟨Nat.le_of_ble_eq_true rfl, Nat.le_of_ble_eq_true rfl⟩ (Nat.le_of_ble_eq_true rfl) dX7_says_1) ?_
  refine J_if_eq (pc := 4) hX (tgt := 19) (by decide) dX7_says_4 (fun h3 => ?_) (fun h3 => ?_)
  · refine J_aload_n (pc := 19) hX 0 rfl dX7_says_19 ?_
    refine J_bipush (pc := 20) hX (v := (-52 : Int32)) (by decide) dX7_says_20 ?_
    refine J_call2 (fun y4 I5 e6 => ?_)
    refine jrun_i (pc := 22) (jRunV hX s_X7_127 (ci := 7) (T := TX7) (N := 20) (As := [ji (-52 : Int32)]) (rest := []) rfl (by decide) (C_X7_refuses Y hz0 t0 ht0 (-52 : Int32) I0 L0 y4 I5 e6) ht0 rfl rfl ⟨by decide, by decide⟩ ⟨Nat.le_of_ble_eq_true rfl, Nat.le_of_ble_eq_true rfl⟩ (Nat.le_of_ble_eq_true rfl) dX7_says_22) ?_
    exact J_iret (pc := 25) hX (hQ _) dX7_says_25
  · refine J_iload_n (pc := 7) hX 2 rfl dX7_says_7 ?_
    refine J_i2l (pc := 8) hX dX7_says_8 ?_
    refine J_lconst (pc := 9) hX (v := (0 : Int64)) (by decide) dX7_says_9 ?_
    refine J_ldc2 (pc := 10) hX q_X7_125 dX7_says_10 ?_
    refine J_call1 (fun y7 e8 => ?_)
    refine jrun_i (pc := 13) (jRunS hX s_X7_47 (As := [jl ((p1).toInt64), jl (0 : Int64), jl (8 : Int64)]) (rest := []) (C_X7_isIn Y hz0 ((p1).toInt64) (0 : Int64) (8 : Int64) I0 L0 y7 e8) rfl rfl ⟨by decide, by decide⟩ ⟨Nat.le_of_ble_eq_true rfl, Nat.le_of_ble_eq_true rfl⟩ (Nat.le_of_ble_eq_true rfl) dX7_says_13) ?_
    refine J_if_ne (pc := 16) hX (tgt := 26) (by decide) dX7_says_16 (fun h9 => ?_) (fun h9 => ?_)
    · refine J_aload_n (pc := 26) hX 0 rfl dX7_says_26 ?_
      refine g_X7_25 (pc := 27) hX ht0 dX7_says_27 ?_
      refine J_iload_n (pc := 30) hX 1 rfl dX7_says_30 ?_
      refine J_iald (pc := 31) hX (N := 8) (fs_7_11 t0 ht0) (by decide) dX7_says_31 (fun h10 => ?_)
      refine J_i2l (pc := 32) hX dX7_says_32 ?_
      refine J_lconst (pc := 33) hX (v := (0 : Int64)) (by decide) dX7_says_33 ?_
      refine J_ldc2 (pc := 34) hX q_X7_191 dX7_says_34 ?_
      refine J_call1 (fun y11 e12 => ?_)
      refine jrun_i (pc := 37) (jRunS hX s_X7_47 (As := [jl (((I0 (rfC t0 11) (p0).toNatClampNeg)).toInt64), jl (0 : Int64), jl (4 : Int64)]) (rest := []) (C_X7_isIn Y hz0 (((I0 (rfC t0 11) (p0).toNatClampNeg)).toInt64) (0 : Int64) (4 : Int64) I0 L0 y11 e12) rfl rfl ⟨by decide, by decide⟩ ⟨Nat.le_of_ble_eq_true rfl, Nat.le_of_ble_eq_true rfl⟩ (Nat.le_of_ble_eq_true rfl) dX7_says_37) ?_
      refine J_if_eq (pc := 40) hX (tgt := 50) (by decide) dX7_says_40 (fun h13 => ?_) (fun h13 => ?_)
      · refine J_aload_n (pc := 50) hX 0 rfl dX7_says_50 ?_
        refine g_X7_25 (pc := 51) hX ht0 dX7_says_51 ?_
        refine J_iload_n (pc := 54) hX 1 rfl dX7_says_54 ?_
        refine J_iald (pc := 55) hX (N := 8) (fs_7_11 t0 ht0) (by decide) dX7_says_55 (fun h14 => ?_)
        refine J_if_ge (pc := 56) hX (tgt := 66) (by decide) dX7_says_56 (fun h15 => ?_) (fun h15 => ?_)
        · refine J_aload_n (pc := 66) hX 0 rfl dX7_says_66 ?_
          refine g_X7_25 (pc := 67) hX ht0 dX7_says_67 ?_
          refine J_iload_n (pc := 70) hX 1 rfl dX7_says_70 ?_
          refine J_iald (pc := 71) hX (N := 8) (fs_7_11 t0 ht0) (by decide) dX7_says_71 (fun h16 => ?_)
          refine J_bipush (pc := 72) hX (v := (11 : Int32)) (by decide) dX7_says_72 ?_
          refine J_isub (pc := 74) hX dX7_says_74 ?_
          refine J_leti (fun y17 => ?_)
          refine J_istore_n (pc := 75) hX (lo' := [(3, ji y17), (0, jr t0), (1, ji p0), (2, ji p1)]) (by decide) rfl dX7_says_75 ?_
          refine J_aload_n (pc := 76) hX 1 rfl dX7_says_76 ?_
          refine J_iload_n (pc := 77) hX 0 rfl dX7_says_77 ?_
          refine J_iconst (pc := 78) hX (v := (2 : Int32)) (by decide) dX7_says_78 ?_
          refine J_call1 (fun y18 e19 => ?_)
          refine jrun_i (pc := 79) (jRunV hX s_X7_59 (ci := 7) (T := TX7) (N := 20) (As := [ji y17, ji (2 : Int32)]) (rest := []) rfl (by decide) (C_X7_of Y hz0 t0 ht0 y17 (2 : Int32) I0 L0 y18 e19) ht0 rfl rfl ⟨by decide, by decide⟩ ⟨Nat.le_of_ble_eq_true rfl, Nat.le_of_ble_eq_true rfl⟩ (Nat.le_of_ble_eq_true rfl) dX7_says_79) ?_
          refine J_iload_n (pc := 82) hX 3 rfl dX7_says_82 ?_
          refine J_call1 (fun y20 e21 => ?_)
          refine jrun_i (pc := 83) (jRunS hX s_X7_198 (As := [ji y18, ji p1]) (rest := []) (C_X7_isUnder Y hz0 y18 p1 I0 L0 y20 e21) rfl rfl ⟨by decide, by decide⟩ ⟨Nat.le_of_ble_eq_true rfl, Nat.le_of_ble_eq_true rfl⟩ (Nat.le_of_ble_eq_true rfl) dX7_says_83) ?_
          refine J_if_ne (pc := 86) hX (tgt := 96) (by decide) dX7_says_86 (fun h22 => ?_) (fun h22 => ?_)
          · refine J_iload_n (pc := 96) hX 3 rfl dX7_says_96 ?_
            refine J_swc (0 : Int32) (fun h23 => ?_) (fun h23 => ?_)
            · refine J_swIn (pc := 97) hX (tgt := 144) (off := 47) (0 : Int32) h23 (by decide) (by decide) rfl (by decide) dX7_says_97 ?_
              refine J_aload_n (pc := 144) hX 1 rfl dX7_says_144 ?_
              refine J_iload_n (pc := 145) hX 0 rfl dX7_says_145 ?_
              refine J_iconst (pc := 146) hX (v := (2 : Int32)) (by decide) dX7_says_146 ?_
              refine J_call1 (fun y24 e25 => ?_)
              refine jrun_i (pc := 147) (jRunV hX s_X7_59 (ci := 7) (T := TX7) (N := 20) (As := [ji y17, ji (2 : Int32)]) (rest := []) rfl (by decide) (C_X7_of Y hz0 t0 ht0 y17 (2 : Int32) I0 L0 y24 e25) ht0 rfl rfl ⟨by decide, by decide⟩ ⟨Nat.le_of_ble_eq_true rfl, Nat.le_of_ble_eq_true rfl⟩ (Nat.le_of_ble_eq_true rfl) dX7_says_147) ?_
              exact J_iret (pc := 150) hX (hQ _) dX7_says_150
            refine J_swc (1 : Int32) (fun h26 => ?_) (fun h26 => ?_)
            · refine J_swIn (pc := 97) hX (tgt := 151) (off := 54) (1 : Int32) h26 (by decide) (by decide) rfl (by decide) dX7_says_97 ?_
              refine J_aload_n (pc := 151) hX 1 rfl dX7_says_151 ?_
              refine J_iload_n (pc := 152) hX 0 rfl dX7_says_152 ?_
              refine J_call1 (fun y27 e28 => ?_)
              refine jrun_i (pc := 153) (jRunV hX s_X7_66 (ci := 7) (T := TX7) (N := 20) (As := [ji y17]) (rest := []) rfl (by decide) (C_X7_noted Y hz0 t0 ht0 y17 I0 L0 y27 e28) ht0 rfl rfl ⟨by decide, by decide⟩ ⟨Nat.le_of_ble_eq_true rfl, Nat.le_of_ble_eq_true rfl⟩ (Nat.le_of_ble_eq_true rfl) dX7_says_153) ?_
              exact J_iret (pc := 156) hX (hQ _) dX7_says_156
            refine J_swc (2 : Int32) (fun h29 => ?_) (fun h29 => ?_)
            · refine J_swIn (pc := 97) hX (tgt := 157) (off := 60) (2 : Int32) h29 (by decide) (by decide) rfl (by decide) dX7_says_97 ?_
              refine J_aload_n (pc := 157) hX 1 rfl dX7_says_157 ?_
              refine J_iload_n (pc := 158) hX 0 rfl dX7_says_158 ?_
              refine J_iconst (pc := 159) hX (v := (0 : Int32)) (by decide) dX7_says_159 ?_
              refine J_call1 (fun y30 e31 => ?_)
              refine jrun_i (pc := 160) (jRunV hX s_X7_59 (ci := 7) (T := TX7) (N := 20) (As := [ji y17, ji (0 : Int32)]) (rest := []) rfl (by decide) (C_X7_of Y hz0 t0 ht0 y17 (0 : Int32) I0 L0 y30 e31) ht0 rfl rfl ⟨by decide, by decide⟩ ⟨Nat.le_of_ble_eq_true rfl, Nat.le_of_ble_eq_true rfl⟩ (Nat.le_of_ble_eq_true rfl) dX7_says_160) ?_
              exact J_iret (pc := 163) hX (hQ _) dX7_says_163
            refine J_swc (3 : Int32) (fun h32 => ?_) (fun h32 => ?_)
            · refine J_swIn (pc := 97) hX (tgt := 164) (off := 67) (3 : Int32) h32 (by decide) (by decide) rfl (by decide) dX7_says_97 ?_
              refine J_aload_n (pc := 164) hX 1 rfl dX7_says_164 ?_
              refine J_iload_n (pc := 165) hX 0 rfl dX7_says_165 ?_
              refine J_iconst (pc := 166) hX (v := (3 : Int32)) (by decide) dX7_says_166 ?_
              refine J_iconst (pc := 167) hX (v := (1 : Int32)) (by decide) dX7_says_167 ?_
              refine J_call1 (fun y33 e34 => ?_)
              refine jrun_i (pc := 168) (jRunV hX s_X7_202 (ci := 7) (T := TX7) (N := 20) (As := [ji y17, ji (3 : Int32), ji (1 : Int32)]) (rest := []) rfl (by decide) (C_X7_extreme Y hz0 t0 ht0 y17 (3 : Int32) (1 : Int32) I0 L0 y33 e34) ht0 rfl rfl ⟨by decide, by decide⟩ ⟨Nat.le_of_ble_eq_true rfl, Nat.le_of_ble_eq_true rfl⟩ (Nat.le_of_ble_eq_true rfl) dX7_says_168) ?_
              exact J_iret (pc := 171) hX (hQ _) dX7_says_171
            refine J_swc (4 : Int32) (fun h35 => ?_) (fun h35 => ?_)
            · refine J_swIn (pc := 97) hX (tgt := 172) (off := 75) (4 : Int32) h35 (by decide) (by decide) rfl (by decide) dX7_says_97 ?_
              refine J_aload_n (pc := 172) hX 1 rfl dX7_says_172 ?_
              refine J_iload_n (pc := 173) hX 0 rfl dX7_says_173 ?_
              refine J_iconst (pc := 174) hX (v := (4 : Int32)) (by decide) dX7_says_174 ?_
              refine J_iconst (pc := 175) hX (v := (-1 : Int32)) (by decide) dX7_says_175 ?_
              refine J_call1 (fun y36 e37 => ?_)
              refine jrun_i (pc := 176) (jRunV hX s_X7_202 (ci := 7) (T := TX7) (N := 20) (As := [ji y17, ji (4 : Int32), ji (-1 : Int32)]) (rest := []) rfl (by decide) (C_X7_extreme Y hz0 t0 ht0 y17 (4 : Int32) (-1 : Int32) I0 L0 y36 e37) ht0 rfl rfl ⟨by decide, by decide⟩ ⟨Nat.le_of_ble_eq_true rfl, Nat.le_of_ble_eq_true rfl⟩ (Nat.le_of_ble_eq_true rfl) dX7_says_176) ?_
              exact J_iret (pc := 179) hX (hQ _) dX7_says_179
            refine J_swc (5 : Int32) (fun h38 => ?_) (fun h38 => ?_)
            · refine J_swIn (pc := 97) hX (tgt := 180) (off := 83) (5 : Int32) h38 (by decide) (by decide) rfl (by decide) dX7_says_97 ?_
              refine J_aload_n (pc := 180) hX 1 rfl dX7_says_180 ?_
              refine J_iload_n (pc := 181) hX 0 rfl dX7_says_181 ?_
              refine J_iconst (pc := 182) hX (v := (4 : Int32)) (by decide) dX7_says_182 ?_
              refine J_iconst (pc := 183) hX (v := (1 : Int32)) (by decide) dX7_says_183 ?_
              refine J_call1 (fun y39 e40 => ?_)
              refine jrun_i (pc := 184) (jRunV hX s_X7_202 (ci := 7) (T := TX7) (N := 20) (As := [ji y17, ji (4 : Int32), ji (1 : Int32)]) (rest := []) rfl (by decide) (C_X7_extreme Y hz0 t0 ht0 y17 (4 : Int32) (1 : Int32) I0 L0 y39 e40) ht0 rfl rfl ⟨by decide, by decide⟩ ⟨Nat.le_of_ble_eq_true rfl, Nat.le_of_ble_eq_true rfl⟩ (Nat.le_of_ble_eq_true rfl) dX7_says_184) ?_
              exact J_iret (pc := 187) hX (hQ _) dX7_says_187
            refine J_swc (6 : Int32) (fun h41 => ?_) (fun h41 => ?_)
            · refine J_swIn (pc := 97) hX (tgt := 188) (off := 91) (6 : Int32) h41 (by decide) (by decide) rfl (by decide) dX7_says_97 ?_
              refine J_aload_n (pc := 188) hX 1 rfl dX7_says_188 ?_
              refine J_iload_n (pc := 189) hX 0 rfl dX7_says_189 ?_
              refine J_iconst (pc := 190) hX (v := (5 : Int32)) (by decide) dX7_says_190 ?_
              refine J_iconst (pc := 191) hX (v := (-1 : Int32)) (by decide) dX7_says_191 ?_
              refine J_call1 (fun y42 e43 => ?_)
              refine jrun_i (pc := 192) (jRunV hX s_X7_202 (ci := 7) (T := TX7) (N := 20) (As := [ji y17, ji (5 : Int32), ji (-1 : Int32)]) (rest := []) rfl (by decide) (C_X7_extreme Y hz0 t0 ht0 y17 (5 : Int32) (-1 : Int32) I0 L0 y42 e43) ht0 rfl rfl ⟨by decide, by decide⟩ ⟨Nat.le_of_ble_eq_true rfl, Nat.le_of_ble_eq_true rfl⟩ (Nat.le_of_ble_eq_true rfl) dX7_says_192) ?_
              exact J_iret (pc := 195) hX (hQ _) dX7_says_195
            refine J_swc (7 : Int32) (fun h44 => ?_) (fun h44 => ?_)
            · refine J_swIn (pc := 97) hX (tgt := 196) (off := 99) (7 : Int32) h44 (by decide) (by decide) rfl (by decide) dX7_says_97 ?_
              refine J_aload_n (pc := 196) hX 1 rfl dX7_says_196 ?_
              refine J_iload_n (pc := 197) hX 0 rfl dX7_says_197 ?_
              refine J_iconst (pc := 198) hX (v := (3 : Int32)) (by decide) dX7_says_198 ?_
              refine J_call1 (fun y45 e46 => ?_)
              refine jrun_i (pc := 199) (jRunV hX s_X7_59 (ci := 7) (T := TX7) (N := 20) (As := [ji y17, ji (3 : Int32)]) (rest := []) rfl (by decide) (C_X7_of Y hz0 t0 ht0 y17 (3 : Int32) I0 L0 y45 e46) ht0 rfl rfl ⟨by decide, by decide⟩ ⟨Nat.le_of_ble_eq_true rfl, Nat.le_of_ble_eq_true rfl⟩ (Nat.le_of_ble_eq_true rfl) dX7_says_199) ?_
              exact J_iret (pc := 202) hX (hQ _) dX7_says_202
            refine J_swOut (pc := 97) hX (tgt := 203) (by decide) (jsw_2 (jsw_1 (b := 8) (7 : Int32) (jsw_1 (b := 7) (6 : Int32) (jsw_1 (b := 6) (5 : Int32) (jsw_1 (b := 5) (4 : Int32) (jsw_1 (b := 4) (3 : Int32) (jsw_1 (b := 3) (2 : Int32) (jsw_1 (b := 2) (1 : Int32) (jsw_1 (b := 1) (0 : Int32) jsw_0 h23 (by decide) (by decide)) h26 (by decide) (by decide)) h29 (by decide) (by decide)) h32 (by decide) (by decide)) h35 (by decide) (by decide)) h38 (by decide) (by decide)) h41 (by decide) (by decide)) h44 (by decide) (by decide)) (by decide)) dX7_says_97 ?_
            refine J_aload_n (pc := 203) hX 1 rfl dX7_says_203 ?_
            refine J_iload_n (pc := 204) hX 0 rfl dX7_says_204 ?_
            refine J_bipush (pc := 205) hX (v := (9 : Int32)) (by decide) dX7_says_205 ?_
            refine J_call1 (fun y47 e48 => ?_)
            refine jrun_i (pc := 207) (jRunV hX s_X7_59 (ci := 7) (T := TX7) (N := 20) (As := [ji y17, ji (9 : Int32)]) (rest := []) rfl (by decide) (C_X7_of Y hz0 t0 ht0 y17 (9 : Int32) I0 L0 y47 e48) ht0 rfl rfl ⟨by decide, by decide⟩ ⟨Nat.le_of_ble_eq_true rfl, Nat.le_of_ble_eq_true rfl⟩ (Nat.le_of_ble_eq_true rfl) dX7_says_207) ?_
            exact J_iret (pc := 210) hX (hQ _) dX7_says_210
          · refine J_aload_n (pc := 89) hX 1 rfl dX7_says_89 ?_
            refine J_bipush (pc := 90) hX (v := (-53 : Int32)) (by decide) dX7_says_90 ?_
            refine J_call2 (fun y49 I50 e51 => ?_)
            refine jrun_i (pc := 92) (jRunV hX s_X7_127 (ci := 7) (T := TX7) (N := 20) (As := [ji (-53 : Int32)]) (rest := []) rfl (by decide) (C_X7_refuses Y hz0 t0 ht0 (-53 : Int32) I0 L0 y49 I50 e51) ht0 rfl rfl ⟨by decide, by decide⟩ ⟨Nat.le_of_ble_eq_true rfl, Nat.le_of_ble_eq_true rfl⟩ (Nat.le_of_ble_eq_true rfl) dX7_says_92) ?_
            exact J_iret (pc := 95) hX (hQ _) dX7_says_95
        · refine J_aload_n (pc := 59) hX 0 rfl dX7_says_59 ?_
          refine J_bipush (pc := 60) hX (v := (-54 : Int32)) (by decide) dX7_says_60 ?_
          refine J_call2 (fun y52 I53 e54 => ?_)
          refine jrun_i (pc := 62) (jRunV hX s_X7_127 (ci := 7) (T := TX7) (N := 20) (As := [ji (-54 : Int32)]) (rest := []) rfl (by decide) (C_X7_refuses Y hz0 t0 ht0 (-54 : Int32) I0 L0 y52 I53 e54) ht0 rfl rfl ⟨by decide, by decide⟩ ⟨Nat.le_of_ble_eq_true rfl, Nat.le_of_ble_eq_true rfl⟩ (Nat.le_of_ble_eq_true rfl) dX7_says_62) ?_
          exact J_iret (pc := 65) hX (hQ _) dX7_says_65
      · refine J_aload_n (pc := 43) hX 0 rfl dX7_says_43 ?_
        refine J_bipush (pc := 44) hX (v := (-53 : Int32)) (by decide) dX7_says_44 ?_
        refine J_call2 (fun y55 I56 e57 => ?_)
        refine jrun_i (pc := 46) (jRunV hX s_X7_127 (ci := 7) (T := TX7) (N := 20) (As := [ji (-53 : Int32)]) (rest := []) rfl (by decide) (C_X7_refuses Y hz0 t0 ht0 (-53 : Int32) I0 L0 y55 I56 e57) ht0 rfl rfl ⟨by decide, by decide⟩ ⟨Nat.le_of_ble_eq_true rfl, Nat.le_of_ble_eq_true rfl⟩ (Nat.le_of_ble_eq_true rfl) dX7_says_46) ?_
        exact J_iret (pc := 49) hX (hQ _) dX7_says_49
    · refine J_aload_n (pc := 19) hX 0 rfl dX7_says_19 ?_
      refine J_bipush (pc := 20) hX (v := (-52 : Int32)) (by decide) dX7_says_20 ?_
      refine J_call2 (fun y58 I59 e60 => ?_)
      refine jrun_i (pc := 22) (jRunV hX s_X7_127 (ci := 7) (T := TX7) (N := 20) (As := [ji (-52 : Int32)]) (rest := []) rfl (by decide) (C_X7_refuses Y hz0 t0 ht0 (-52 : Int32) I0 L0 y58 I59 e60) ht0 rfl rfl ⟨by decide, by decide⟩ ⟨Nat.le_of_ble_eq_true rfl, Nat.le_of_ble_eq_true rfl⟩ (Nat.le_of_ble_eq_true rfl) dX7_says_22) ?_
      exact J_iret (pc := 25) hX (hQ _) dX7_says_25
theorem C_X7_says (Y : jY) (hz0 : Y.zf = false) (t0 : Nat) (ht0 : shC t0 = 8) (p0 : Int32) (p1 : Int32) (I0 : jI) (L0 : jL) (r : Int32) (I1 : jI) (h : X7_says t0 p0 p1 I0 = some (r, I1)) : jMet Y yX7_says cX7_says 4 (some .int) 4 151 0 0 [jr t0, ji p0, ji p1] NC shC rfC I0 L0 (some (ji r)) NC shC rfC I1 L0 :=
  jmet_of _ _ h (fun Z r => jQ Y Z 0 0 (some (ji r.1)) NC shC rfC r.2 L0) (fun _ => rfl) (by decide) (Nat.le_of_ble_eq_true rfl) (fun Z hX => W_X7_says hz0 t0 ht0 p0 p1 I0 L0 hX (fun _ => rfl))
def X7_levelOf_F1 (t0 : Nat) (I0 : jI) (y10 : Int32) (k13 : Int32 → Int32 → Option (Int32 × jI)) (g24 : Int32 → Int32 → Int32 → Option (Int32 × jI)) : Int32 → Int32 → Int32 → Option (Int32 × jI) := fun (v21 : Int32) (v22 : Int32) (v23 : Int32) =>
(X7_of t0 y10 (0 : Int32) I0).bind (fun (y25 : Int32) =>
if y25 ≤ v23 then (
k13 v21 v22)
else (
(X7_note t0 y10 v23 (0 : Int32) I0).bind (fun (y28 : Int32) =>
jlet (if y28 < 0 then (0 : Int32) else (1 : Int32)) (fun (y31 : Int32) =>
jlet (if y31 = 0 then (0 : Int32) else (1 : Int32)) (fun (y33 : Int32) =>
jlet ((v21 + y33)) (fun (y34 : Int32) =>
jlet (fun (v35 : Int32) =>
jlet ((v22 + v35)) (fun (y37 : Int32) =>
g24 y34 y37 (v23 + (1 : Int32)))) (fun (k36 : Int32 → Option (Int32 × jI)) =>
jlet (
k36 (0 : Int32)) (fun (k38 : Option (Int32 × jI)) =>
if y31 = 0 then (
k38)
else (
(X7_note t0 y10 v23 (2 : Int32) I0).bind (fun (y40 : Int32) =>
if y40 = (1 : Int32) then (
k36 (1 : Int32))
else (
k38)))))))))))
def X7_levelOf (t0 : Nat) (p0 : Int32) (p1 : Int32) (I0 : jI) : Option (Int32 × jI) :=
(X7_isLevel t0 p0 I0).bind (fun (y1 : Int32) =>
if y1 = 0 then (
jb2 (X7_refuses t0 (-52 : Int32) I0) (fun (y4 : Int32) (I5 : jI) =>
some (y4, I5)))
else (
(X7_isIn ((p1).toInt64) (0 : Int64) (9 : Int64)).bind (fun (y7 : Int32) =>
if y7 = 0 then (
jb2 (X7_refuses t0 (-52 : Int32) I0) (fun (y43 : Int32) (I44 : jI) =>
some (y43, I44)))
else (
jlet ((p0 - (1 : Int32))) (fun (y10 : Int32) =>
jlet (fun (v11 : Int32) (v12 : Int32) =>
if (3 : Int32) ≤ p1 then (
if p1 = (3 : Int32) then (
some (v11, I0))
else (
if p1 = (4 : Int32) then (
some (v12, I0))
else (
(X7_of t0 y10 (p1 - (1 : Int32)) I0).bind (fun (y17 : Int32) =>
some (y17, I0)))))
else (
(X7_of t0 y10 p1 I0).bind (fun (y19 : Int32) =>
some (y19, I0)))) (fun (k13 : Int32 → Int32 → Option (Int32 × jI)) =>
jfx (X7_levelOf_F1 t0 I0 y10 k13) (fun _ _ _ => none) 1000 (0 : Int32) (0 : Int32) (0 : Int32)))))))
set_option maxRecDepth 20000 in
set_option maxHeartbeats 4000000 in
theorem W_X7_levelOf {Y : jY} {Z : jZ} {Qf : Int32 × jI → State → Prop} (hz0 : Y.zf = false) (t0 : Nat) (ht0 : shC t0 = 8) (p0 : Int32) (p1 : Int32) (I0 : jI) (L0 : jL) (hX : jOK Y Z RX7 cX7_levelOf 8 "levelOf" (some .int) 3 126 0 0) (hQ : ∀ r : Int32 × jI, Qf r = jQ Y Z 0 0 (some (ji r.1)) NC shC rfC r.2 L0) : J Y Z 8 Qf (X7_levelOf t0 p0 p1 I0) 0 [(0, jr t0), (1, ji p0), (2, ji p1)] [] 0 0 NC shC rfC I0 L0 := by
  unfold X7_levelOf
  refine J_aload_n (pc := 0) hX 0 rfl dX7_levelOf_0 ?_
  refine J_iload_n (pc := 1) hX 1 rfl dX7_levelOf_1 ?_
  refine J_call1 (fun y1 e2 => ?_)
  refine jrun_i (pc := 2) (jRunV hX s_X7_147 (ci := 7) (T := TX7) (N := 20) (As := [ji p0]) (rest := []) rfl (by decide) (C_X7_isLevel Y hz0 t0 ht0 p0 I0 L0 y1 e2) ht0 rfl rfl ⟨by decide, by decide⟩ ⟨Nat.le_of_ble_eq_true rfl, Nat.le_of_ble_eq_true rfl⟩ (Nat.le_of_ble_eq_true rfl) dX7_levelOf_2) ?_
  refine J_if_eq (pc := 5) hX (tgt := 20) (by decide) dX7_levelOf_5 (fun h3 => ?_) (fun h3 => ?_)
  · refine J_aload_n (pc := 20) hX 0 rfl dX7_levelOf_20 ?_
    refine J_bipush (pc := 21) hX (v := (-52 : Int32)) (by decide) dX7_levelOf_21 ?_
    refine J_call2 (fun y4 I5 e6 => ?_)
    refine jrun_i (pc := 23) (jRunV hX s_X7_127 (ci := 7) (T := TX7) (N := 20) (As := [ji (-52 : Int32)]) (rest := []) rfl (by decide) (C_X7_refuses Y hz0 t0 ht0 (-52 : Int32) I0 L0 y4 I5 e6) ht0 rfl rfl ⟨by decide, by decide⟩ ⟨Nat.le_of_ble_eq_true rfl, Nat.le_of_ble_eq_true rfl⟩ (Nat.le_of_ble_eq_true rfl) dX7_levelOf_23) ?_
    exact J_iret (pc := 26) hX (hQ _) dX7_levelOf_26
  · refine J_iload_n (pc := 8) hX 2 rfl dX7_levelOf_8 ?_
    refine J_i2l (pc := 9) hX dX7_levelOf_9 ?_
    refine J_lconst (pc := 10) hX (v := (0 : Int64)) (by decide) dX7_levelOf_10 ?_
    refine J_ldc2 (pc := 11) hX q_X7_205 dX7_levelOf_11 ?_
    refine J_call1 (fun y7 e8 => ?_)
    refine jrun_i (pc := 14) (jRunS hX s_X7_47 (As := [jl ((p1).toInt64), jl (0 : Int64), jl (9 : Int64)]) (rest := []) (C_X7_isIn Y hz0 ((p1).toInt64) (0 : Int64) (9 : Int64) I0 L0 y7 e8) rfl rfl ⟨by decide, by decide⟩ ⟨Nat.le_of_ble_eq_true rfl, Nat.le_of_ble_eq_true rfl⟩ (Nat.le_of_ble_eq_true rfl) dX7_levelOf_14) ?_
    refine J_if_ne (pc := 17) hX (tgt := 27) (by decide) dX7_levelOf_17 (fun h9 => ?_) (fun h9 => ?_)
    · refine J_iload_n (pc := 27) hX 1 rfl dX7_levelOf_27 ?_
      refine J_iconst (pc := 28) hX (v := (1 : Int32)) (by decide) dX7_levelOf_28 ?_
      refine J_isub (pc := 29) hX dX7_levelOf_29 ?_
      refine J_leti (fun y10 => ?_)
      refine J_istore_n (pc := 30) hX (lo' := [(3, ji y10), (0, jr t0), (1, ji p0), (2, ji p1)]) (by decide) rfl dX7_levelOf_30 ?_
      refine J_iconst (pc := 31) hX (v := (0 : Int32)) (by decide) dX7_levelOf_31 ?_
      refine J_istore (pc := 32) hX (lo' := [(4, ji (0 : Int32)), (3, ji y10), (0, jr t0), (1, ji p0), (2, ji p1)]) (by decide) rfl dX7_levelOf_32 ?_
      refine J_iconst (pc := 34) hX (v := (0 : Int32)) (by decide) dX7_levelOf_34 ?_
      refine J_istore (pc := 35) hX (lo' := [(5, ji (0 : Int32)), (4, ji (0 : Int32)), (3, ji y10), (0, jr t0), (1, ji p0), (2, ji p1)]) (by decide) rfl dX7_levelOf_35 ?_
      refine J_iconst (pc := 37) hX (v := (0 : Int32)) (by decide) dX7_levelOf_37 ?_
      refine J_istore (pc := 38) hX (lo' := [(6, ji (0 : Int32)), (5, ji (0 : Int32)), (4, ji (0 : Int32)), (3, ji y10), (0, jr t0), (1, ji p0), (2, ji p1)]) (by decide) rfl dX7_levelOf_38 ?_
      refine J_join (fun (k13 : Int32 → Int32 → Option (Int32 × jI)) => ∀ (v11 : Int32) (v12 : Int32), J Y Z 8 Qf (k13 v11 v12) 117 [(0, jr t0), (2, ji p1), (3, ji y10), (4, ji v11), (5, ji v12)] [] 0 0 NC shC rfC I0 L0) ?_ (fun k13 hk13 => ?_)
      · intro v11 v12
        try dsimp only
        refine J_iload_n (pc := 117) hX 1 rfl dX7_levelOf_117 ?_
        refine J_iconst (pc := 118) hX (v := (3 : Int32)) (by decide) dX7_levelOf_118 ?_
        refine J_icmp_ge (pc := 119) hX (tgt := 131) (by decide) dX7_levelOf_119 (fun h14 => ?_) (fun h14 => ?_)
        · refine J_iload_n (pc := 131) hX 1 rfl dX7_levelOf_131 ?_
          refine J_iconst (pc := 132) hX (v := (3 : Int32)) (by decide) dX7_levelOf_132 ?_
          refine J_icmp_ne (pc := 133) hX (tgt := 141) (by decide) dX7_levelOf_133 (fun h15 => ?_) (fun h15 => ?_)
          · refine J_iload_n (pc := 141) hX 1 rfl dX7_levelOf_141 ?_
            refine J_iconst (pc := 142) hX (v := (4 : Int32)) (by decide) dX7_levelOf_142 ?_
            refine J_icmp_ne (pc := 143) hX (tgt := 151) (by decide) dX7_levelOf_143 (fun h16 => ?_) (fun h16 => ?_)
            · refine J_aload_n (pc := 151) hX 0 rfl dX7_levelOf_151 ?_
              refine J_iload_n (pc := 152) hX 2 rfl dX7_levelOf_152 ?_
              refine J_iload_n (pc := 153) hX 1 rfl dX7_levelOf_153 ?_
              refine J_iconst (pc := 154) hX (v := (1 : Int32)) (by decide) dX7_levelOf_154 ?_
              refine J_isub (pc := 155) hX dX7_levelOf_155 ?_
              refine J_call1 (fun y17 e18 => ?_)
              refine jrun_i (pc := 156) (jRunV hX s_X7_59 (ci := 7) (T := TX7) (N := 20) (As := [ji y10, ji (p1 - (1 : Int32))]) (rest := []) rfl (by decide) (C_X7_of Y hz0 t0 ht0 y10 (p1 - (1 : Int32)) I0 L0 y17 e18) ht0 rfl rfl ⟨by decide, by decide⟩ ⟨Nat.le_of_ble_eq_true rfl, Nat.le_of_ble_eq_true rfl⟩ (Nat.le_of_ble_eq_true rfl) dX7_levelOf_156) ?_
              exact J_iret (pc := 159) hX (hQ _) dX7_levelOf_159
            · refine J_iload (pc := 146) hX 4 rfl dX7_levelOf_146 ?_
              refine J_goto (pc := 148) hX (tgt := 159) (by decide) dX7_levelOf_148 ?_
              exact J_iret (pc := 159) hX (hQ _) dX7_levelOf_159
          · refine J_iload (pc := 136) hX 3 rfl dX7_levelOf_136 ?_
            refine J_goto (pc := 138) hX (tgt := 159) (by decide) dX7_levelOf_138 ?_
            exact J_iret (pc := 159) hX (hQ _) dX7_levelOf_159
        · refine J_aload_n (pc := 122) hX 0 rfl dX7_levelOf_122 ?_
          refine J_iload_n (pc := 123) hX 2 rfl dX7_levelOf_123 ?_
          refine J_iload_n (pc := 124) hX 1 rfl dX7_levelOf_124 ?_
          refine J_call1 (fun y19 e20 => ?_)
          refine jrun_i (pc := 125) (jRunV hX s_X7_59 (ci := 7) (T := TX7) (N := 20) (As := [ji y10, ji p1]) (rest := []) rfl (by decide) (C_X7_of Y hz0 t0 ht0 y10 p1 I0 L0 y19 e20) ht0 rfl rfl ⟨by decide, by decide⟩ ⟨Nat.le_of_ble_eq_true rfl, Nat.le_of_ble_eq_true rfl⟩ (Nat.le_of_ble_eq_true rfl) dX7_levelOf_125) ?_
          refine J_goto (pc := 128) hX (tgt := 159) (by decide) dX7_levelOf_128 ?_
          exact J_iret (pc := 159) hX (hQ _) dX7_levelOf_159
      have lhg24 : ∀ mq : Nat, ∀ (v21 : Int32) (v22 : Int32) (v23 : Int32), J Y Z 8 Qf (jfx (X7_levelOf_F1 t0 I0 y10 k13) (fun _ _ _ => none) mq v21 v22 v23) 40 [(0, jr t0), (2, ji p1), (3, ji y10), (4, ji v21), (5, ji v22), (6, ji v23)] [] 0 0 NC shC rfC I0 L0 := by
        intro mq
        refine jfx_J (fun (_ : Nat) (g24 : Int32 → Int32 → Int32 → Option (Int32 × jI)) => ∀ (v21 : Int32) (v22 : Int32) (v23 : Int32), J Y Z 8 Qf (g24 v21 v22 v23) 40 [(0, jr t0), (2, ji p1), (3, ji y10), (4, ji v21), (5, ji v22), (6, ji v23)] [] 0 0 NC shC rfC I0 L0) ?_ (fun _ g24 hg24 => ?_) mq
        · intro v21 v22 v23
          exact J_none
        intro v21 v22 v23
        unfold X7_levelOf_F1
        try dsimp only
        refine J_iload (pc := 40) hX 5 rfl dX7_levelOf_40 ?_
        refine J_aload_n (pc := 42) hX 0 rfl dX7_levelOf_42 ?_
        refine J_iload_n (pc := 43) hX 2 rfl dX7_levelOf_43 ?_
        refine J_iconst (pc := 44) hX (v := (0 : Int32)) (by decide) dX7_levelOf_44 ?_
        refine J_call1 (fun y25 e26 => ?_)
        refine jrun_i (pc := 45) (jRunV hX s_X7_59 (ci := 7) (T := TX7) (N := 20) (As := [ji y10, ji (0 : Int32)]) (rest := [ji v23]) rfl (by decide) (C_X7_of Y hz0 t0 ht0 y10 (0 : Int32) I0 L0 y25 e26) ht0 rfl rfl ⟨by decide, by decide⟩ ⟨Nat.le_of_ble_eq_true rfl, Nat.le_of_ble_eq_true rfl⟩ (Nat.le_of_ble_eq_true rfl) dX7_levelOf_45) ?_
        refine J_icmp_ge (pc := 48) hX (tgt := 117) (by decide) dX7_levelOf_48 (fun h27 => ?_) (fun h27 => ?_)
        · refine J_sub [0, 1, 2, 3, 4] rfl ?_
          exact hk13 v21 v22
        · refine J_aload_n (pc := 51) hX 0 rfl dX7_levelOf_51 ?_
          refine J_iload_n (pc := 52) hX 2 rfl dX7_levelOf_52 ?_
          refine J_iload (pc := 53) hX 5 rfl dX7_levelOf_53 ?_
          refine J_iconst (pc := 55) hX (v := (0 : Int32)) (by decide) dX7_levelOf_55 ?_
          refine J_call1 (fun y28 e29 => ?_)
          refine jrun_i (pc := 56) (jRunV hX s_X7_62 (ci := 7) (T := TX7) (N := 20) (As := [ji y10, ji v23, ji (0 : Int32)]) (rest := []) rfl (by decide) (C_X7_note Y hz0 t0 ht0 y10 v23 (0 : Int32) I0 L0 y28 e29) ht0 rfl rfl ⟨by decide, by decide⟩ ⟨Nat.le_of_ble_eq_true rfl, Nat.le_of_ble_eq_true rfl⟩ (Nat.le_of_ble_eq_true rfl) dX7_levelOf_56) ?_
          refine J_vjoin (fun kq (y31 : Int32) => J Y Z 8 Qf (kq) 67 [(0, jr t0), (2, ji p1), (3, ji y10), (4, ji v21), (5, ji v22), (6, ji v23)] [ji y31] 0 0 NC shC rfC I0 L0) (fun y31 => ?_) (fun hj => ?_)
          · try dsimp only
            refine J_istore (pc := 67) hX (lo' := [(7, ji y31), (0, jr t0), (2, ji p1), (3, ji y10), (4, ji v21), (5, ji v22), (6, ji v23)]) (by decide) rfl dX7_levelOf_67 ?_
            refine J_iload (pc := 69) hX 4 rfl dX7_levelOf_69 ?_
            refine J_iload (pc := 71) hX 0 rfl dX7_levelOf_71 ?_
            refine J_vjoin (fun kq (y33 : Int32) => J Y Z 8 Qf (kq) 81 [(7, ji y31), (0, jr t0), (2, ji p1), (3, ji y10), (4, ji v21), (5, ji v22), (6, ji v23)] [ji y33, ji v21] 0 0 NC shC rfC I0 L0) (fun y33 => ?_) (fun hj => ?_)
            · try dsimp only
              refine J_iadd (pc := 81) hX dX7_levelOf_81 ?_
              refine J_leti (fun y34 => ?_)
              refine J_istore (pc := 82) hX (lo' := [(4, ji y34), (7, ji y31), (0, jr t0), (2, ji p1), (3, ji y10), (5, ji v22), (6, ji v23)]) (by decide) rfl dX7_levelOf_82 ?_
              refine J_iload (pc := 84) hX 5 rfl dX7_levelOf_84 ?_
              refine J_iload (pc := 86) hX 1 rfl dX7_levelOf_86 ?_
              refine J_join (fun (k36 : Int32 → Option (Int32 × jI)) => ∀ (v35 : Int32), J Y Z 8 Qf (k36 v35) 108 [(0, jr t0), (2, ji p1), (3, ji y10), (4, ji y34), (6, ji v23)] [ji v35, ji v22] 0 0 NC shC rfC I0 L0) ?_ (fun k36 hk36 => ?_)
              · intro v35
                try dsimp only
                refine J_iadd (pc := 108) hX dX7_levelOf_108 ?_
                refine J_leti (fun y37 => ?_)
                refine J_istore (pc := 109) hX (lo' := [(5, ji y37), (0, jr t0), (2, ji p1), (3, ji y10), (4, ji y34), (6, ji v23)]) (by decide) rfl dX7_levelOf_109 ?_
                refine J_iinc (pc := 111) hX (v := (v23 + (1 : Int32))) (lo' := [(6, ji (v23 + (1 : Int32))), (5, ji y37), (0, jr t0), (2, ji p1), (3, ji y10), (4, ji y34)]) 5 rfl (by rfl) (by decide) rfl dX7_levelOf_111 ?_
                refine J_goto (pc := 114) hX (tgt := 40) (by decide) dX7_levelOf_114 ?_
                refine J_sub [2, 3, 4, 5, 1, 0] rfl ?_
                exact hg24 y34 y37 (v23 + (1 : Int32))
              refine J_join (fun (k38 : Option (Int32 × jI)) => J Y Z 8 Qf (k38) 107 [(0, jr t0), (2, ji p1), (3, ji y10), (4, ji y34), (6, ji v23)] [ji v22] 0 0 NC shC rfC I0 L0) ?_ (fun k38 hk38 => ?_)
              · refine J_iconst (pc := 107) hX (v := (0 : Int32)) (by decide) dX7_levelOf_107 ?_
                exact hk36 (0 : Int32)
              refine J_if_eq (pc := 88) hX (tgt := 107) (by decide) dX7_levelOf_88 (fun h39 => ?_) (fun h39 => ?_)
              · refine J_sub [2, 3, 4, 0, 6] rfl ?_
                exact hk38
              · refine J_aload_n (pc := 91) hX 2 rfl dX7_levelOf_91 ?_
                refine J_iload_n (pc := 92) hX 4 rfl dX7_levelOf_92 ?_
                refine J_iload (pc := 93) hX 6 rfl dX7_levelOf_93 ?_
                refine J_iconst (pc := 95) hX (v := (2 : Int32)) (by decide) dX7_levelOf_95 ?_
                refine J_call1 (fun y40 e41 => ?_)
                refine jrun_i (pc := 96) (jRunV hX s_X7_62 (ci := 7) (T := TX7) (N := 20) (As := [ji y10, ji v23, ji (2 : Int32)]) (rest := [ji v22]) rfl (by decide) (C_X7_note Y hz0 t0 ht0 y10 v23 (2 : Int32) I0 L0 y40 e41) ht0 rfl rfl ⟨by decide, by decide⟩ ⟨Nat.le_of_ble_eq_true rfl, Nat.le_of_ble_eq_true rfl⟩ (Nat.le_of_ble_eq_true rfl) dX7_levelOf_96) ?_
                refine J_iconst (pc := 99) hX (v := (1 : Int32)) (by decide) dX7_levelOf_99 ?_
                refine J_icmp_ne (pc := 100) hX (tgt := 107) (by decide) dX7_levelOf_100 (fun h42 => ?_) (fun h42 => ?_)
                · refine J_sub [2, 3, 4, 0, 6] rfl ?_
                  exact hk38
                · refine J_iconst (pc := 103) hX (v := (1 : Int32)) (by decide) dX7_levelOf_103 ?_
                  refine J_goto (pc := 104) hX (tgt := 108) (by decide) dX7_levelOf_104 ?_
                  refine J_sub [2, 3, 4, 0, 6] rfl ?_
                  exact hk36 (1 : Int32)
            try dsimp only at hj
            refine J_if_eqV (pc := 73) hX (tgt := 80) (by decide) dX7_levelOf_73 (fun h32 => ?_) (fun h32 => ?_)
            · refine J_iconst (pc := 80) hX (v := (0 : Int32)) (by decide) dX7_levelOf_80 ?_
              exact hj _
            · refine J_iconst (pc := 76) hX (v := (1 : Int32)) (by decide) dX7_levelOf_76 ?_
              refine J_goto (pc := 77) hX (tgt := 81) (by decide) dX7_levelOf_77 ?_
              exact hj _
          try dsimp only at hj
          refine J_if_ltV (pc := 59) hX (tgt := 66) (by decide) dX7_levelOf_59 (fun h30 => ?_) (fun h30 => ?_)
          · refine J_iconst (pc := 66) hX (v := (0 : Int32)) (by decide) dX7_levelOf_66 ?_
            exact hj _
          · refine J_iconst (pc := 62) hX (v := (1 : Int32)) (by decide) dX7_levelOf_62 ?_
            refine J_goto (pc := 63) hX (tgt := 67) (by decide) dX7_levelOf_63 ?_
            exact hj _
      refine J_sub [4, 6, 3, 2, 1, 0] rfl ?_
      exact lhg24 1000 (0 : Int32) (0 : Int32) (0 : Int32)
    · refine J_aload_n (pc := 20) hX 0 rfl dX7_levelOf_20 ?_
      refine J_bipush (pc := 21) hX (v := (-52 : Int32)) (by decide) dX7_levelOf_21 ?_
      refine J_call2 (fun y43 I44 e45 => ?_)
      refine jrun_i (pc := 23) (jRunV hX s_X7_127 (ci := 7) (T := TX7) (N := 20) (As := [ji (-52 : Int32)]) (rest := []) rfl (by decide) (C_X7_refuses Y hz0 t0 ht0 (-52 : Int32) I0 L0 y43 I44 e45) ht0 rfl rfl ⟨by decide, by decide⟩ ⟨Nat.le_of_ble_eq_true rfl, Nat.le_of_ble_eq_true rfl⟩ (Nat.le_of_ble_eq_true rfl) dX7_levelOf_23) ?_
      exact J_iret (pc := 26) hX (hQ _) dX7_levelOf_26
theorem C_X7_levelOf (Y : jY) (hz0 : Y.zf = false) (t0 : Nat) (ht0 : shC t0 = 8) (p0 : Int32) (p1 : Int32) (I0 : jI) (L0 : jL) (r : Int32) (I1 : jI) (h : X7_levelOf t0 p0 p1 I0 = some (r, I1)) : jMet Y yX7_levelOf cX7_levelOf 8 (some .int) 3 126 0 0 [jr t0, ji p0, ji p1] NC shC rfC I0 L0 (some (ji r)) NC shC rfC I1 L0 :=
  jmet_of _ _ h (fun Z r => jQ Y Z 0 0 (some (ji r.1)) NC shC rfC r.2 L0) (fun _ => rfl) (by decide) (Nat.le_of_ble_eq_true rfl) (fun Z hX => W_X7_levelOf hz0 t0 ht0 p0 p1 I0 L0 hX (fun _ => rfl))
def X7_slot (t0 : Nat) (p0 : Int32) (p1 : Int32) (p2 : Int32) (I0 : jI) : Option (Int32 × jI) :=
(X7_isLevel t0 p0 I0).bind (fun (y1 : Int32) =>
if y1 = 0 then (
jb2 (X7_refuses t0 (-52 : Int32) I0) (fun (y4 : Int32) (I5 : jI) =>
some (y4, I5)))
else (
(X7_of t0 (p0 - (1 : Int32)) (0 : Int32) I0).bind (fun (y7 : Int32) =>
(X7_isIn ((p1).toInt64) (0 : Int64) (((y7 - (1 : Int32))).toInt64)).bind (fun (y9 : Int32) =>
if y9 = 0 then (
jb2 (X7_refuses t0 (-52 : Int32) I0) (fun (y12 : Int32) (I13 : jI) =>
some (y12, I13)))
else (
(X7_isIn ((p2).toInt64) (0 : Int64) (5 : Int64)).bind (fun (y15 : Int32) =>
if y15 = 0 then (
jb2 (X7_refuses t0 (-52 : Int32) I0) (fun (y27 : Int32) (I28 : jI) =>
some (y27, I28)))
else (
jlet ((p0 - (1 : Int32))) (fun (y18 : Int32) =>
(X7_note t0 y18 p1 (0 : Int32) I0).bind (fun (y19 : Int32) =>
if 0 ≤ y19 then (
if p2 = 0 then (
(X7_note t0 y18 p1 (0 : Int32) I0).bind (fun (y25 : Int32) =>
some (y25, I0)))
else (
(X7_note t0 y18 p1 (p2 + (1 : Int32)) I0).bind (fun (y23 : Int32) =>
some (y23, I0))))
else (
some ((-1 : Int32), I0)))))))))))
set_option maxRecDepth 20000 in
set_option maxHeartbeats 4000000 in
theorem W_X7_slot {Y : jY} {Z : jZ} {Qf : Int32 × jI → State → Prop} (hz0 : Y.zf = false) (t0 : Nat) (ht0 : shC t0 = 8) (p0 : Int32) (p1 : Int32) (p2 : Int32) (I0 : jI) (L0 : jL) (hX : jOK Y Z RX7 cX7_slot 5 "slot" (some .int) 3 126 0 0) (hQ : ∀ r : Int32 × jI, Qf r = jQ Y Z 0 0 (some (ji r.1)) NC shC rfC r.2 L0) : J Y Z 5 Qf (X7_slot t0 p0 p1 p2 I0) 0 [(0, jr t0), (1, ji p0), (2, ji p1), (3, ji p2)] [] 0 0 NC shC rfC I0 L0 := by
  unfold X7_slot
  refine J_aload_n (pc := 0) hX 0 rfl dX7_slot_0 ?_
  refine J_iload_n (pc := 1) hX 1 rfl dX7_slot_1 ?_
  refine J_call1 (fun y1 e2 => ?_)
  refine jrun_i (pc := 2) (jRunV hX s_X7_147 (ci := 7) (T := TX7) (N := 20) (As := [ji p0]) (rest := []) rfl (by decide) (C_X7_isLevel Y hz0 t0 ht0 p0 I0 L0 y1 e2) ht0 rfl rfl ⟨by decide, by decide⟩ ⟨Nat.le_of_ble_eq_true rfl, Nat.le_of_ble_eq_true rfl⟩ (Nat.le_of_ble_eq_true rfl) dX7_slot_2) ?_
  refine J_if_eq (pc := 5) hX (tgt := 40) (by decide) dX7_slot_5 (fun h3 => ?_) (fun h3 => ?_)
  · refine J_aload_n (pc := 40) hX 0 rfl dX7_slot_40 ?_
    refine J_bipush (pc := 41) hX (v := (-52 : Int32)) (by decide) dX7_slot_41 ?_
    refine J_call2 (fun y4 I5 e6 => ?_)
    refine jrun_i (pc := 43) (jRunV hX s_X7_127 (ci := 7) (T := TX7) (N := 20) (As := [ji (-52 : Int32)]) (rest := []) rfl (by decide) (C_X7_refuses Y hz0 t0 ht0 (-52 : Int32) I0 L0 y4 I5 e6) ht0 rfl rfl ⟨by decide, by decide⟩ ⟨Nat.le_of_ble_eq_true rfl, Nat.le_of_ble_eq_true rfl⟩ (Nat.le_of_ble_eq_true rfl) dX7_slot_43) ?_
    exact J_iret (pc := 46) hX (hQ _) dX7_slot_46
  · refine J_iload_n (pc := 8) hX 2 rfl dX7_slot_8 ?_
    refine J_i2l (pc := 9) hX dX7_slot_9 ?_
    refine J_lconst (pc := 10) hX (v := (0 : Int64)) (by decide) dX7_slot_10 ?_
    refine J_aload_n (pc := 11) hX 0 rfl dX7_slot_11 ?_
    refine J_iload_n (pc := 12) hX 1 rfl dX7_slot_12 ?_
    refine J_iconst (pc := 13) hX (v := (1 : Int32)) (by decide) dX7_slot_13 ?_
    refine J_isub (pc := 14) hX dX7_slot_14 ?_
    refine J_iconst (pc := 15) hX (v := (0 : Int32)) (by decide) dX7_slot_15 ?_
    refine J_call1 (fun y7 e8 => ?_)
    refine jrun_i (pc := 16) (jRunV hX s_X7_59 (ci := 7) (T := TX7) (N := 20) (As := [ji (p0 - (1 : Int32)), ji (0 : Int32)]) (rest := [jl (0 : Int64), jl ((p1).toInt64)]) rfl (by decide) (C_X7_of Y hz0 t0 ht0 (p0 - (1 : Int32)) (0 : Int32) I0 L0 y7 e8) ht0 rfl rfl ⟨by decide, by decide⟩ ⟨Nat.le_of_ble_eq_true rfl, Nat.le_of_ble_eq_true rfl⟩ (Nat.le_of_ble_eq_true rfl) dX7_slot_16) ?_
    refine J_iconst (pc := 19) hX (v := (1 : Int32)) (by decide) dX7_slot_19 ?_
    refine J_isub (pc := 20) hX dX7_slot_20 ?_
    refine J_i2l (pc := 21) hX dX7_slot_21 ?_
    refine J_call1 (fun y9 e10 => ?_)
    refine jrun_i (pc := 22) (jRunS hX s_X7_47 (As := [jl ((p1).toInt64), jl (0 : Int64), jl (((y7 - (1 : Int32))).toInt64)]) (rest := []) (C_X7_isIn Y hz0 ((p1).toInt64) (0 : Int64) (((y7 - (1 : Int32))).toInt64) I0 L0 y9 e10) rfl rfl ⟨by decide, by decide⟩ ⟨Nat.le_of_ble_eq_true rfl, Nat.le_of_ble_eq_true rfl⟩ (Nat.le_of_ble_eq_true rfl) dX7_slot_22) ?_
    refine J_if_eq (pc := 25) hX (tgt := 40) (by decide) dX7_slot_25 (fun h11 => ?_) (fun h11 => ?_)
    · refine J_aload_n (pc := 40) hX 0 rfl dX7_slot_40 ?_
      refine J_bipush (pc := 41) hX (v := (-52 : Int32)) (by decide) dX7_slot_41 ?_
      refine J_call2 (fun y12 I13 e14 => ?_)
      refine jrun_i (pc := 43) (jRunV hX s_X7_127 (ci := 7) (T := TX7) (N := 20) (As := [ji (-52 : Int32)]) (rest := []) rfl (by decide) (C_X7_refuses Y hz0 t0 ht0 (-52 : Int32) I0 L0 y12 I13 e14) ht0 rfl rfl ⟨by decide, by decide⟩ ⟨Nat.le_of_ble_eq_true rfl, Nat.le_of_ble_eq_true rfl⟩ (Nat.le_of_ble_eq_true rfl) dX7_slot_43) ?_
      exact J_iret (pc := 46) hX (hQ _) dX7_slot_46
    · refine J_iload_n (pc := 28) hX 3 rfl dX7_slot_28 ?_
      refine J_i2l (pc := 29) hX dX7_slot_29 ?_
      refine J_lconst (pc := 30) hX (v := (0 : Int64)) (by decide) dX7_slot_30 ?_
      refine J_ldc2 (pc := 31) hX q_X7_207 dX7_slot_31 ?_
      refine J_call1 (fun y15 e16 => ?_)
      refine jrun_i (pc := 34) (jRunS hX s_X7_47 (As := [jl ((p2).toInt64), jl (0 : Int64), jl (5 : Int64)]) (rest := []) (C_X7_isIn Y hz0 ((p2).toInt64) (0 : Int64) (5 : Int64) I0 L0 y15 e16) rfl rfl ⟨by decide, by decide⟩ ⟨Nat.le_of_ble_eq_true rfl, Nat.le_of_ble_eq_true rfl⟩ (Nat.le_of_ble_eq_true rfl) dX7_slot_34) ?_
      refine J_if_ne (pc := 37) hX (tgt := 47) (by decide) dX7_slot_37 (fun h17 => ?_) (fun h17 => ?_)
      · refine J_iload_n (pc := 47) hX 1 rfl dX7_slot_47 ?_
        refine J_iconst (pc := 48) hX (v := (1 : Int32)) (by decide) dX7_slot_48 ?_
        refine J_isub (pc := 49) hX dX7_slot_49 ?_
        refine J_leti (fun y18 => ?_)
        refine J_istore (pc := 50) hX (lo' := [(4, ji y18), (0, jr t0), (1, ji p0), (2, ji p1), (3, ji p2)]) (by decide) rfl dX7_slot_50 ?_
        refine J_aload_n (pc := 52) hX 1 rfl dX7_slot_52 ?_
        refine J_iload (pc := 53) hX 0 rfl dX7_slot_53 ?_
        refine J_iload_n (pc := 55) hX 3 rfl dX7_slot_55 ?_
        refine J_iconst (pc := 56) hX (v := (0 : Int32)) (by decide) dX7_slot_56 ?_
        refine J_call1 (fun y19 e20 => ?_)
        refine jrun_i (pc := 57) (jRunV hX s_X7_62 (ci := 7) (T := TX7) (N := 20) (As := [ji y18, ji p1, ji (0 : Int32)]) (rest := []) rfl (by decide) (C_X7_note Y hz0 t0 ht0 y18 p1 (0 : Int32) I0 L0 y19 e20) ht0 rfl rfl ⟨by decide, by decide⟩ ⟨Nat.le_of_ble_eq_true rfl, Nat.le_of_ble_eq_true rfl⟩ (Nat.le_of_ble_eq_true rfl) dX7_slot_57) ?_
        refine J_if_ge (pc := 60) hX (tgt := 67) (by decide) dX7_slot_60 (fun h21 => ?_) (fun h21 => ?_)
        · refine J_aload_n (pc := 67) hX 1 rfl dX7_slot_67 ?_
          refine J_iload (pc := 68) hX 0 rfl dX7_slot_68 ?_
          refine J_iload_n (pc := 70) hX 3 rfl dX7_slot_70 ?_
          refine J_iload_n (pc := 71) hX 4 rfl dX7_slot_71 ?_
          refine J_if_ne (pc := 72) hX (tgt := 79) (by decide) dX7_slot_72 (fun h22 => ?_) (fun h22 => ?_)
          · refine J_iload_n (pc := 79) hX 4 rfl dX7_slot_79 ?_
            refine J_iconst (pc := 80) hX (v := (1 : Int32)) (by decide) dX7_slot_80 ?_
            refine J_iadd (pc := 81) hX dX7_slot_81 ?_
            refine J_call1 (fun y23 e24 => ?_)
            refine jrun_i (pc := 82) (jRunV hX s_X7_62 (ci := 7) (T := TX7) (N := 20) (As := [ji y18, ji p1, ji (p2 + (1 : Int32))]) (rest := []) rfl (by decide) (C_X7_note Y hz0 t0 ht0 y18 p1 (p2 + (1 : Int32)) I0 L0 y23 e24) ht0 rfl rfl ⟨by decide, by decide⟩ ⟨Nat.le_of_ble_eq_true rfl, Nat.le_of_ble_eq_true rfl⟩ (Nat.le_of_ble_eq_true rfl) dX7_slot_82) ?_
            exact J_iret (pc := 85) hX (hQ _) dX7_slot_85
          · refine J_iconst (pc := 75) hX (v := (0 : Int32)) (by decide) dX7_slot_75 ?_
            refine J_goto (pc := 76) hX (tgt := 82) (by decide) dX7_slot_76 ?_
            refine J_call1 (fun y25 e26 => ?_)
            refine jrun_i (pc := 82) (jRunV hX s_X7_62 (ci := 7) (T := TX7) (N := 20) (As := [ji y18, ji p1, ji (0 : Int32)]) (rest := []) rfl (by decide) (C_X7_note Y hz0 t0 ht0 y18 p1 (0 : Int32) I0 L0 y25 e26) ht0 rfl rfl ⟨by decide, by decide⟩ ⟨Nat.le_of_ble_eq_true rfl, Nat.le_of_ble_eq_true rfl⟩ (Nat.le_of_ble_eq_true rfl) dX7_slot_82) ?_
            exact J_iret (pc := 85) hX (hQ _) dX7_slot_85
        · refine J_iconst (pc := 63) hX (v := (-1 : Int32)) (by decide) dX7_slot_63 ?_
          refine J_goto (pc := 64) hX (tgt := 85) (by decide) dX7_slot_64 ?_
          exact J_iret (pc := 85) hX (hQ _) dX7_slot_85
      · refine J_aload_n (pc := 40) hX 0 rfl dX7_slot_40 ?_
        refine J_bipush (pc := 41) hX (v := (-52 : Int32)) (by decide) dX7_slot_41 ?_
        refine J_call2 (fun y27 I28 e29 => ?_)
        refine jrun_i (pc := 43) (jRunV hX s_X7_127 (ci := 7) (T := TX7) (N := 20) (As := [ji (-52 : Int32)]) (rest := []) rfl (by decide) (C_X7_refuses Y hz0 t0 ht0 (-52 : Int32) I0 L0 y27 I28 e29) ht0 rfl rfl ⟨by decide, by decide⟩ ⟨Nat.le_of_ble_eq_true rfl, Nat.le_of_ble_eq_true rfl⟩ (Nat.le_of_ble_eq_true rfl) dX7_slot_43) ?_
        exact J_iret (pc := 46) hX (hQ _) dX7_slot_46
theorem C_X7_slot (Y : jY) (hz0 : Y.zf = false) (t0 : Nat) (ht0 : shC t0 = 8) (p0 : Int32) (p1 : Int32) (p2 : Int32) (I0 : jI) (L0 : jL) (r : Int32) (I1 : jI) (h : X7_slot t0 p0 p1 p2 I0 = some (r, I1)) : jMet Y yX7_slot cX7_slot 5 (some .int) 3 126 0 0 [jr t0, ji p0, ji p1, ji p2] NC shC rfC I0 L0 (some (ji r)) NC shC rfC I1 L0 :=
  jmet_of _ _ h (fun Z r => jQ Y Z 0 0 (some (ji r.1)) NC shC rfC r.2 L0) (fun _ => rfl) (by decide) (Nat.le_of_ble_eq_true rfl) (fun Z hX => W_X7_slot hz0 t0 ht0 p0 p1 p2 I0 L0 hX (fun _ => rfl))
def X7_value (t0 : Nat) (p0 : Int32) (p1 : Int32) (I0 : jI) : Option (Int32 × jI) :=
jlet (
(X7_isPage ((p1).toInt64)).bind (fun (y2 : Int32) =>
if y2 = 0 then (
jb2 (X7_refuses t0 (-52 : Int32) I0) (fun (y15 : Int32) (I16 : jI) =>
some (y15, I16)))
else (
if p0 = 0 then (
if jin p1 784 then (
some ((I0 (rfC t0 0) (p1).toNatClampNeg), I0)) else none)
else (
(X7_found t0 (p0 - (1 : Int32)) p1 I0).bind (fun (y6 : Int32) =>
if 0 ≤ y6 then (
(X7_note t0 (p0 - (1 : Int32)) y6 (1 : Int32) I0).bind (fun (y9 : Int32) =>
some (y9, I0)))
else (
jb2 (X7_refuses t0 (-55 : Int32) I0) (fun (y11 : Int32) (I12 : jI) =>
some (y11, I12)))))))) (fun (k1 : Option (Int32 × jI)) =>
if p0 = 0 then (
k1)
else (
(X7_isLevel t0 p0 I0).bind (fun (y19 : Int32) =>
if y19 = 0 then (
jb2 (X7_refuses t0 (-52 : Int32) I0) (fun (y22 : Int32) (I23 : jI) =>
some (y22, I23)))
else (
k1))))
set_option maxRecDepth 20000 in
set_option maxHeartbeats 4000000 in
theorem W_X7_value {Y : jY} {Z : jZ} {Qf : Int32 × jI → State → Prop} (hz0 : Y.zf = false) (t0 : Nat) (ht0 : shC t0 = 8) (p0 : Int32) (p1 : Int32) (I0 : jI) (L0 : jL) (hX : jOK Y Z RX7 cX7_value 4 "value" (some .int) 4 148 0 0) (hQ : ∀ r : Int32 × jI, Qf r = jQ Y Z 0 0 (some (ji r.1)) NC shC rfC r.2 L0) : J Y Z 4 Qf (X7_value t0 p0 p1 I0) 0 [(0, jr t0), (1, ji p0), (2, ji p1)] [] 0 0 NC shC rfC I0 L0 := by
  unfold X7_value
  refine J_iload_n (pc := 0) hX 1 rfl dX7_value_0 ?_
  refine J_join (fun (k1 : Option (Int32 × jI)) => J Y Z 4 Qf (k1) 12 [(0, jr t0), (1, ji p0), (2, ji p1)] [] 0 0 NC shC rfC I0 L0) ?_ (fun k1 hk1 => ?_)
  · refine J_iload_n (pc := 12) hX 2 rfl dX7_value_12 ?_
    refine J_i2l (pc := 13) hX dX7_value_13 ?_
    refine J_call1 (fun y2 e3 => ?_)
    refine jrun_i (pc := 14) (jRunS hX s_X7_137 (As := [jl ((p1).toInt64)]) (rest := []) (C_X7_isPage Y hz0 ((p1).toInt64) I0 L0 y2 e3) rfl rfl ⟨by decide, by decide⟩ ⟨Nat.le_of_ble_eq_true rfl, Nat.le_of_ble_eq_true rfl⟩ (Nat.le_of_ble_eq_true rfl) dX7_value_14) ?_
    refine J_if_ne (pc := 17) hX (tgt := 27) (by decide) dX7_value_17 (fun h4 => ?_) (fun h4 => ?_)
    · refine J_iload_n (pc := 27) hX 1 rfl dX7_value_27 ?_
      refine J_if_ne (pc := 28) hX (tgt := 38) (by decide) dX7_value_28 (fun h5 => ?_) (fun h5 => ?_)
      · refine J_aload_n (pc := 38) hX 0 rfl dX7_value_38 ?_
        refine J_iload_n (pc := 39) hX 1 rfl dX7_value_39 ?_
        refine J_iconst (pc := 40) hX (v := (1 : Int32)) (by decide) dX7_value_40 ?_
        refine J_isub (pc := 41) hX dX7_value_41 ?_
        refine J_iload_n (pc := 42) hX 2 rfl dX7_value_42 ?_
        refine J_call1 (fun y6 e7 => ?_)
        refine jrun_i (pc := 43) (jRunV hX s_X7_73 (ci := 7) (T := TX7) (N := 20) (As := [ji (p0 - (1 : Int32)), ji p1]) (rest := []) rfl (by decide) (C_X7_found Y hz0 t0 ht0 (p0 - (1 : Int32)) p1 I0 L0 y6 e7) ht0 rfl rfl ⟨by decide, by decide⟩ ⟨Nat.le_of_ble_eq_true rfl, Nat.le_of_ble_eq_true rfl⟩ (Nat.le_of_ble_eq_true rfl) dX7_value_43) ?_
        refine J_istore_n (pc := 46) hX (lo' := [(3, ji y6), (0, jr t0), (1, ji p0), (2, ji p1)]) (by decide) rfl dX7_value_46 ?_
        refine J_iload_n (pc := 47) hX 0 rfl dX7_value_47 ?_
        refine J_if_ge (pc := 48) hX (tgt := 60) (by decide) dX7_value_48 (fun h8 => ?_) (fun h8 => ?_)
        · refine J_aload_n (pc := 60) hX 1 rfl dX7_value_60 ?_
          refine J_iload_n (pc := 61) hX 2 rfl dX7_value_61 ?_
          refine J_iconst (pc := 62) hX (v := (1 : Int32)) (by decide) dX7_value_62 ?_
          refine J_isub (pc := 63) hX dX7_value_63 ?_
          refine J_iload_n (pc := 64) hX 0 rfl dX7_value_64 ?_
          refine J_iconst (pc := 65) hX (v := (1 : Int32)) (by decide) dX7_value_65 ?_
          refine J_call1 (fun y9 e10 => ?_)
          refine jrun_i (pc := 66) (jRunV hX s_X7_62 (ci := 7) (T := TX7) (N := 20) (As := [ji (p0 - (1 : Int32)), ji y6, ji (1 : Int32)]) (rest := []) rfl (by decide) (C_X7_note Y hz0 t0 ht0 (p0 - (1 : Int32)) y6 (1 : Int32) I0 L0 y9 e10) ht0 rfl rfl ⟨by decide, by decide⟩ ⟨Nat.le_of_ble_eq_true rfl, Nat.le_of_ble_eq_true rfl⟩ (Nat.le_of_ble_eq_true rfl) dX7_value_66) ?_
          exact J_iret (pc := 69) hX (hQ _) dX7_value_69
        · refine J_aload_n (pc := 51) hX 1 rfl dX7_value_51 ?_
          refine J_bipush (pc := 52) hX (v := (-55 : Int32)) (by decide) dX7_value_52 ?_
          refine J_call2 (fun y11 I12 e13 => ?_)
          refine jrun_i (pc := 54) (jRunV hX s_X7_127 (ci := 7) (T := TX7) (N := 20) (As := [ji (-55 : Int32)]) (rest := []) rfl (by decide) (C_X7_refuses Y hz0 t0 ht0 (-55 : Int32) I0 L0 y11 I12 e13) ht0 rfl rfl ⟨by decide, by decide⟩ ⟨Nat.le_of_ble_eq_true rfl, Nat.le_of_ble_eq_true rfl⟩ (Nat.le_of_ble_eq_true rfl) dX7_value_54) ?_
          refine J_goto (pc := 57) hX (tgt := 69) (by decide) dX7_value_57 ?_
          exact J_iret (pc := 69) hX (hQ _) dX7_value_69
      · refine J_aload_n (pc := 31) hX 0 rfl dX7_value_31 ?_
        refine g_X7_7 (pc := 32) hX ht0 dX7_value_32 ?_
        refine J_iload_n (pc := 35) hX 2 rfl dX7_value_35 ?_
        refine J_iald (pc := 36) hX (N := 784) (fs_7_0 t0 ht0) (by decide) dX7_value_36 (fun h14 => ?_)
        exact J_iret (pc := 37) hX (hQ _) dX7_value_37
    · refine J_aload_n (pc := 20) hX 0 rfl dX7_value_20 ?_
      refine J_bipush (pc := 21) hX (v := (-52 : Int32)) (by decide) dX7_value_21 ?_
      refine J_call2 (fun y15 I16 e17 => ?_)
      refine jrun_i (pc := 23) (jRunV hX s_X7_127 (ci := 7) (T := TX7) (N := 20) (As := [ji (-52 : Int32)]) (rest := []) rfl (by decide) (C_X7_refuses Y hz0 t0 ht0 (-52 : Int32) I0 L0 y15 I16 e17) ht0 rfl rfl ⟨by decide, by decide⟩ ⟨Nat.le_of_ble_eq_true rfl, Nat.le_of_ble_eq_true rfl⟩ (Nat.le_of_ble_eq_true rfl) dX7_value_23) ?_
      exact J_iret (pc := 26) hX (hQ _) dX7_value_26
  refine J_if_eq (pc := 1) hX (tgt := 12) (by decide) dX7_value_1 (fun h18 => ?_) (fun h18 => ?_)
  · exact hk1
  · refine J_aload_n (pc := 4) hX 0 rfl dX7_value_4 ?_
    refine J_iload_n (pc := 5) hX 1 rfl dX7_value_5 ?_
    refine J_call1 (fun y19 e20 => ?_)
    refine jrun_i (pc := 6) (jRunV hX s_X7_147 (ci := 7) (T := TX7) (N := 20) (As := [ji p0]) (rest := []) rfl (by decide) (C_X7_isLevel Y hz0 t0 ht0 p0 I0 L0 y19 e20) ht0 rfl rfl ⟨by decide, by decide⟩ ⟨Nat.le_of_ble_eq_true rfl, Nat.le_of_ble_eq_true rfl⟩ (Nat.le_of_ble_eq_true rfl) dX7_value_6) ?_
    refine J_if_eq (pc := 9) hX (tgt := 20) (by decide) dX7_value_9 (fun h21 => ?_) (fun h21 => ?_)
    · refine J_aload_n (pc := 20) hX 0 rfl dX7_value_20 ?_
      refine J_bipush (pc := 21) hX (v := (-52 : Int32)) (by decide) dX7_value_21 ?_
      refine J_call2 (fun y22 I23 e24 => ?_)
      refine jrun_i (pc := 23) (jRunV hX s_X7_127 (ci := 7) (T := TX7) (N := 20) (As := [ji (-52 : Int32)]) (rest := []) rfl (by decide) (C_X7_refuses Y hz0 t0 ht0 (-52 : Int32) I0 L0 y22 I23 e24) ht0 rfl rfl ⟨by decide, by decide⟩ ⟨Nat.le_of_ble_eq_true rfl, Nat.le_of_ble_eq_true rfl⟩ (Nat.le_of_ble_eq_true rfl) dX7_value_23) ?_
      exact J_iret (pc := 26) hX (hQ _) dX7_value_26
    · exact hk1
theorem C_X7_value (Y : jY) (hz0 : Y.zf = false) (t0 : Nat) (ht0 : shC t0 = 8) (p0 : Int32) (p1 : Int32) (I0 : jI) (L0 : jL) (r : Int32) (I1 : jI) (h : X7_value t0 p0 p1 I0 = some (r, I1)) : jMet Y yX7_value cX7_value 4 (some .int) 4 148 0 0 [jr t0, ji p0, ji p1] NC shC rfC I0 L0 (some (ji r)) NC shC rfC I1 L0 :=
  jmet_of _ _ h (fun Z r => jQ Y Z 0 0 (some (ji r.1)) NC shC rfC r.2 L0) (fun _ => rfl) (by decide) (Nat.le_of_ble_eq_true rfl) (fun Z hX => W_X7_value hz0 t0 ht0 p0 p1 I0 L0 hX (fun _ => rfl))
def X7_where_F1 (t0 : Nat) (p0 : Int32) (I0 : jI) (g6 : Int32 → Int32 → Option (Int32 × jI)) : Int32 → Int32 → Option (Int32 × jI) := fun (v4 : Int32) (v5 : Int32) =>
if jin (688 : Int32) 784 then (
if (I0 (rfC t0 0) ((688 : Int32)).toNatClampNeg) ≤ v5 then (
some (v4, I0))
else (
(X7_found t0 v5 p0 I0).bind (fun (y9 : Int32) =>
jlet (if y9 < 0 then (0 : Int32) else ((1 : Int32) <<< (v5 &&& 31))) (fun (y12 : Int32) =>
jlet ((v4 ||| y12)) (fun (y13 : Int32) =>
g6 y13 (v5 + (1 : Int32))))))) else none
def X7_where (t0 : Nat) (p0 : Int32) (I0 : jI) : Option (Int32 × jI) :=
(X7_isPage ((p0).toInt64)).bind (fun (y1 : Int32) =>
if y1 = 0 then (
jb2 (X7_refuses t0 (-52 : Int32) I0) (fun (y14 : Int32) (I15 : jI) =>
some (y14, I15)))
else (
jfx (X7_where_F1 t0 p0 I0) (fun _ _ => none) 1000 (0 : Int32) (0 : Int32)))
set_option maxRecDepth 20000 in
set_option maxHeartbeats 4000000 in
theorem W_X7_where {Y : jY} {Z : jZ} {Qf : Int32 × jI → State → Prop} (hz0 : Y.zf = false) (t0 : Nat) (ht0 : shC t0 = 8) (p0 : Int32) (I0 : jI) (L0 : jL) (hX : jOK Y Z RX7 cX7_where 4 "where" (some .int) 4 148 0 0) (hQ : ∀ r : Int32 × jI, Qf r = jQ Y Z 0 0 (some (ji r.1)) NC shC rfC r.2 L0) : J Y Z 4 Qf (X7_where t0 p0 I0) 0 [(0, jr t0), (1, ji p0)] [] 0 0 NC shC rfC I0 L0 := by
  unfold X7_where
  refine J_iload_n (pc := 0) hX 1 rfl dX7_where_0 ?_
  refine J_i2l (pc := 1) hX dX7_where_1 ?_
  refine J_call1 (fun y1 e2 => ?_)
  refine jrun_i (pc := 2) (jRunS hX s_X7_137 (As := [jl ((p0).toInt64)]) (rest := []) (C_X7_isPage Y hz0 ((p0).toInt64) I0 L0 y1 e2) rfl rfl ⟨by decide, by decide⟩ ⟨Nat.le_of_ble_eq_true rfl, Nat.le_of_ble_eq_true rfl⟩ (Nat.le_of_ble_eq_true rfl) dX7_where_2) ?_
  refine J_if_ne (pc := 5) hX (tgt := 15) (by decide) dX7_where_5 (fun h3 => ?_) (fun h3 => ?_)
  · refine J_iconst (pc := 15) hX (v := (0 : Int32)) (by decide) dX7_where_15 ?_
    refine J_istore_n (pc := 16) hX (lo' := [(2, ji (0 : Int32)), (0, jr t0), (1, ji p0)]) (by decide) rfl dX7_where_16 ?_
    refine J_iconst (pc := 17) hX (v := (0 : Int32)) (by decide) dX7_where_17 ?_
    refine J_istore_n (pc := 18) hX (lo' := [(3, ji (0 : Int32)), (2, ji (0 : Int32)), (0, jr t0), (1, ji p0)]) (by decide) rfl dX7_where_18 ?_
    have lhg6 : ∀ mq : Nat, ∀ (v4 : Int32) (v5 : Int32), J Y Z 4 Qf (jfx (X7_where_F1 t0 p0 I0) (fun _ _ => none) mq v4 v5) 19 [(0, jr t0), (1, ji p0), (2, ji v4), (3, ji v5)] [] 0 0 NC shC rfC I0 L0 := by
      intro mq
      refine jfx_J (fun (_ : Nat) (g6 : Int32 → Int32 → Option (Int32 × jI)) => ∀ (v4 : Int32) (v5 : Int32), J Y Z 4 Qf (g6 v4 v5) 19 [(0, jr t0), (1, ji p0), (2, ji v4), (3, ji v5)] [] 0 0 NC shC rfC I0 L0) ?_ (fun _ g6 hg6 => ?_) mq
      · intro v4 v5
        exact J_none
      intro v4 v5
      unfold X7_where_F1
      try dsimp only
      refine J_iload_n (pc := 19) hX 3 rfl dX7_where_19 ?_
      refine J_aload_n (pc := 20) hX 0 rfl dX7_where_20 ?_
      refine g_X7_7 (pc := 21) hX ht0 dX7_where_21 ?_
      refine J_sipush (pc := 24) hX (v := (688 : Int32)) (by decide) dX7_where_24 ?_
      refine J_iald (pc := 27) hX (N := 784) (fs_7_0 t0 ht0) (by decide) dX7_where_27 (fun h7 => ?_)
      refine J_icmp_ge (pc := 28) hX (tgt := 56) (by decide) dX7_where_28 (fun h8 => ?_) (fun h8 => ?_)
      · refine J_iload_n (pc := 56) hX 2 rfl dX7_where_56 ?_
        exact J_iret (pc := 57) hX (hQ _) dX7_where_57
      · refine J_iload_n (pc := 31) hX 2 rfl dX7_where_31 ?_
        refine J_aload_n (pc := 32) hX 0 rfl dX7_where_32 ?_
        refine J_iload_n (pc := 33) hX 3 rfl dX7_where_33 ?_
        refine J_iload_n (pc := 34) hX 1 rfl dX7_where_34 ?_
        refine J_call1 (fun y9 e10 => ?_)
        refine jrun_i (pc := 35) (jRunV hX s_X7_73 (ci := 7) (T := TX7) (N := 20) (As := [ji v5, ji p0]) (rest := [ji v4]) rfl (by decide) (C_X7_found Y hz0 t0 ht0 v5 p0 I0 L0 y9 e10) ht0 rfl rfl ⟨by decide, by decide⟩ ⟨Nat.le_of_ble_eq_true rfl, Nat.le_of_ble_eq_true rfl⟩ (Nat.le_of_ble_eq_true rfl) dX7_where_35) ?_
        refine J_vjoin (fun kq (y12 : Int32) => J Y Z 4 Qf (kq) 48 [(0, jr t0), (1, ji p0), (2, ji v4), (3, ji v5)] [ji y12, ji v4] 0 0 NC shC rfC I0 L0) (fun y12 => ?_) (fun hj => ?_)
        · try dsimp only
          refine J_ior (pc := 48) hX dX7_where_48 ?_
          refine J_leti (fun y13 => ?_)
          refine J_istore_n (pc := 49) hX (lo' := [(2, ji y13), (0, jr t0), (1, ji p0), (3, ji v5)]) (by decide) rfl dX7_where_49 ?_
          refine J_iinc (pc := 50) hX (v := (v5 + (1 : Int32))) (lo' := [(3, ji (v5 + (1 : Int32))), (2, ji y13), (0, jr t0), (1, ji p0)]) 3 rfl (by rfl) (by decide) rfl dX7_where_50 ?_
          refine J_goto (pc := 53) hX (tgt := 19) (by decide) dX7_where_53 ?_
          refine J_sub [2, 3, 1, 0] rfl ?_
          exact hg6 y13 (v5 + (1 : Int32))
        try dsimp only at hj
        refine J_if_ltV (pc := 38) hX (tgt := 47) (by decide) dX7_where_38 (fun h11 => ?_) (fun h11 => ?_)
        · refine J_iconst (pc := 47) hX (v := (0 : Int32)) (by decide) dX7_where_47 ?_
          exact hj _
        · refine J_iconst (pc := 41) hX (v := (1 : Int32)) (by decide) dX7_where_41 ?_
          refine J_iload_n (pc := 42) hX 3 rfl dX7_where_42 ?_
          refine J_ishl (pc := 43) hX dX7_where_43 ?_
          refine J_goto (pc := 44) hX (tgt := 48) (by decide) dX7_where_44 ?_
          exact hj _
    refine J_sub [2, 3, 1, 0] rfl ?_
    exact lhg6 1000 (0 : Int32) (0 : Int32)
  · refine J_aload_n (pc := 8) hX 0 rfl dX7_where_8 ?_
    refine J_bipush (pc := 9) hX (v := (-52 : Int32)) (by decide) dX7_where_9 ?_
    refine J_call2 (fun y14 I15 e16 => ?_)
    refine jrun_i (pc := 11) (jRunV hX s_X7_127 (ci := 7) (T := TX7) (N := 20) (As := [ji (-52 : Int32)]) (rest := []) rfl (by decide) (C_X7_refuses Y hz0 t0 ht0 (-52 : Int32) I0 L0 y14 I15 e16) ht0 rfl rfl ⟨by decide, by decide⟩ ⟨Nat.le_of_ble_eq_true rfl, Nat.le_of_ble_eq_true rfl⟩ (Nat.le_of_ble_eq_true rfl) dX7_where_11) ?_
    exact J_iret (pc := 14) hX (hQ _) dX7_where_14
theorem C_X7_where (Y : jY) (hz0 : Y.zf = false) (t0 : Nat) (ht0 : shC t0 = 8) (p0 : Int32) (I0 : jI) (L0 : jL) (r : Int32) (I1 : jI) (h : X7_where t0 p0 I0 = some (r, I1)) : jMet Y yX7_where cX7_where 4 (some .int) 4 148 0 0 [jr t0, ji p0] NC shC rfC I0 L0 (some (ji r)) NC shC rfC I1 L0 :=
  jmet_of _ _ h (fun Z r => jQ Y Z 0 0 (some (ji r.1)) NC shC rfC r.2 L0) (fun _ => rfl) (by decide) (Nat.le_of_ble_eq_true rfl) (fun Z hX => W_X7_where hz0 t0 ht0 p0 I0 L0 hX (fun _ => rfl))
def X7_pages_F1 (t0 : Nat) (p0 : Int32) (I0 : jI) (g4 : Int64 → Int32 → Option (Int64 × jI)) : Int64 → Int32 → Option (Int64 × jI) := fun (v2 : Int64) (v3 : Int32) =>
if (64 : Int32) ≤ v3 then (
some (v2, I0))
else (
jlet (fun (v6 : Int32) =>
jlet (if v6 = 0 then (0 : Int64) else (jlshl (1 : Int64) v3)) (fun (y9 : Int64) =>
jlet ((v2 ||| y9)) (fun (y10 : Int64) =>
g4 y10 (v3 + (1 : Int32))))) (fun (k7 : Int32 → Option (Int64 × jI)) =>
if p0 = 0 then (
(X7_isAnywhere t0 v3 I0).bind (fun (y15 : Int32) =>
k7 y15))
else (
(X7_found t0 (p0 - (1 : Int32)) v3 I0).bind (fun (y12 : Int32) =>
if y12 < 0 then (
k7 (0 : Int32))
else (
k7 (1 : Int32))))))
def X7_pages (t0 : Nat) (p0 : Int32) (I0 : jI) : Option (Int64 × jI) :=
jlet (
jfx (X7_pages_F1 t0 p0 I0) (fun _ _ => none) 1000 (0 : Int64) (0 : Int32)) (fun (k1 : Option (Int64 × jI)) =>
if p0 = 0 then (
k1)
else (
(X7_isLevel t0 p0 I0).bind (fun (y18 : Int32) =>
if y18 = 0 then (
jb2 (X7_refuses t0 (-52 : Int32) I0) (fun (y21 : Int32) (I22 : jI) =>
some (((y21).toInt64 - (9000000000000000000 : Int64)), I22)))
else (
k1))))
set_option maxRecDepth 20000 in
set_option maxHeartbeats 4000000 in
theorem W_X7_pages {Y : jY} {Z : jZ} {Qf : Int64 × jI → State → Prop} (hz0 : Y.zf = false) (t0 : Nat) (ht0 : shC t0 = 8) (p0 : Int32) (I0 : jI) (L0 : jL) (hX : jOK Y Z RX7 cX7_pages 6 "pages" (some .long) 5 171 0 0) (hQ : ∀ r : Int64 × jI, Qf r = jQ Y Z 0 0 (some (jl r.1)) NC shC rfC r.2 L0) : J Y Z 6 Qf (X7_pages t0 p0 I0) 0 [(0, jr t0), (1, ji p0)] [] 0 0 NC shC rfC I0 L0 := by
  unfold X7_pages
  refine J_iload_n (pc := 0) hX 1 rfl dX7_pages_0 ?_
  refine J_join (fun (k1 : Option (Int64 × jI)) => J Y Z 6 Qf (k1) 24 [(0, jr t0), (1, ji p0)] [] 0 0 NC shC rfC I0 L0) ?_ (fun k1 hk1 => ?_)
  · refine J_lconst (pc := 24) hX (v := (0 : Int64)) (by decide) dX7_pages_24 ?_
    refine J_lstore_n (pc := 25) hX (lo' := [(2, jl (0 : Int64)), (0, jr t0), (1, ji p0)]) (by decide) rfl dX7_pages_25 ?_
    refine J_iconst (pc := 26) hX (v := (0 : Int32)) (by decide) dX7_pages_26 ?_
    refine J_istore (pc := 27) hX (lo' := [(4, ji (0 : Int32)), (2, jl (0 : Int64)), (0, jr t0), (1, ji p0)]) (by decide) rfl dX7_pages_27 ?_
    have lhg4 : ∀ mq : Nat, ∀ (v2 : Int64) (v3 : Int32), J Y Z 6 Qf (jfx (X7_pages_F1 t0 p0 I0) (fun _ _ => none) mq v2 v3) 29 [(0, jr t0), (1, ji p0), (2, jl v2), (4, ji v3)] [] 0 0 NC shC rfC I0 L0 := by
      intro mq
      refine jfx_J (fun (_ : Nat) (g4 : Int64 → Int32 → Option (Int64 × jI)) => ∀ (v2 : Int64) (v3 : Int32), J Y Z 6 Qf (g4 v2 v3) 29 [(0, jr t0), (1, ji p0), (2, jl v2), (4, ji v3)] [] 0 0 NC shC rfC I0 L0) ?_ (fun _ g4 hg4 => ?_) mq
      · intro v2 v3
        exact J_none
      intro v2 v3
      unfold X7_pages_F1
      try dsimp only
      refine J_iload (pc := 29) hX 3 rfl dX7_pages_29 ?_
      refine J_bipush (pc := 31) hX (v := (64 : Int32)) (by decide) dX7_pages_31 ?_
      refine J_icmp_ge (pc := 33) hX (tgt := 90) (by decide) dX7_pages_33 (fun h5 => ?_) (fun h5 => ?_)
      · refine J_lload_n (pc := 90) hX 2 rfl dX7_pages_90 ?_
        exact J_lret (pc := 91) hX (hQ _) dX7_pages_91
      · refine J_iload_n (pc := 36) hX 1 rfl dX7_pages_36 ?_
        refine J_join (fun (k7 : Int32 → Option (Int64 × jI)) => ∀ (v6 : Int32), J Y Z 6 Qf (k7 v6) 66 [(0, jr t0), (1, ji p0), (2, jl v2), (4, ji v3)] [ji v6] 0 0 NC shC rfC I0 L0) ?_ (fun k7 hk7 => ?_)
        · intro v6
          try dsimp only
          refine J_istore (pc := 66) hX (lo' := [(5, ji v6), (0, jr t0), (1, ji p0), (2, jl v2), (4, ji v3)]) (by decide) rfl dX7_pages_66 ?_
          refine J_lload_n (pc := 68) hX 3 rfl dX7_pages_68 ?_
          refine J_iload (pc := 69) hX 0 rfl dX7_pages_69 ?_
          refine J_vjoin (fun kq (y9 : Int64) => J Y Z 6 Qf (kq) 82 [(5, ji v6), (0, jr t0), (1, ji p0), (2, jl v2), (4, ji v3)] [jl y9, jl v2] 0 0 NC shC rfC I0 L0) (fun y9 => ?_) (fun hj => ?_)
          · try dsimp only
            refine J_lor (pc := 82) hX dX7_pages_82 ?_
            refine J_letl (fun y10 => ?_)
            refine J_lstore_n (pc := 83) hX (lo' := [(2, jl y10), (5, ji v6), (0, jr t0), (1, ji p0), (4, ji v3)]) (by decide) rfl dX7_pages_83 ?_
            refine J_iinc (pc := 84) hX (v := (v3 + (1 : Int32))) (lo' := [(4, ji (v3 + (1 : Int32))), (2, jl y10), (5, ji v6), (0, jr t0), (1, ji p0)]) 4 rfl (by rfl) (by decide) rfl dX7_pages_84 ?_
            refine J_goto (pc := 87) hX (tgt := 29) (by decide) dX7_pages_87 ?_
            refine J_sub [3, 4, 1, 0] rfl ?_
            exact hg4 y10 (v3 + (1 : Int32))
          try dsimp only at hj
          refine J_if_eqV (pc := 71) hX (tgt := 81) (by decide) dX7_pages_71 (fun h8 => ?_) (fun h8 => ?_)
          · refine J_lconst (pc := 81) hX (v := (0 : Int64)) (by decide) dX7_pages_81 ?_
            exact hj _
          · refine J_lconst (pc := 74) hX (v := (1 : Int64)) (by decide) dX7_pages_74 ?_
            refine J_iload (pc := 75) hX 4 rfl dX7_pages_75 ?_
            refine J_lshl (pc := 77) hX dX7_pages_77 ?_
            refine J_goto (pc := 78) hX (tgt := 82) (by decide) dX7_pages_78 ?_
            exact hj _
        refine J_if_ne (pc := 37) hX (tgt := 49) (by decide) dX7_pages_37 (fun h11 => ?_) (fun h11 => ?_)
        · refine J_aload_n (pc := 49) hX 0 rfl dX7_pages_49 ?_
          refine J_iload_n (pc := 50) hX 1 rfl dX7_pages_50 ?_
          refine J_iconst (pc := 51) hX (v := (1 : Int32)) (by decide) dX7_pages_51 ?_
          refine J_isub (pc := 52) hX dX7_pages_52 ?_
          refine J_iload (pc := 53) hX 3 rfl dX7_pages_53 ?_
          refine J_call1 (fun y12 e13 => ?_)
          refine jrun_i (pc := 55) (jRunV hX s_X7_73 (ci := 7) (T := TX7) (N := 20) (As := [ji (p0 - (1 : Int32)), ji v3]) (rest := []) rfl (by decide) (C_X7_found Y hz0 t0 ht0 (p0 - (1 : Int32)) v3 I0 L0 y12 e13) ht0 rfl rfl ⟨by decide, by decide⟩ ⟨Nat.le_of_ble_eq_true rfl, Nat.le_of_ble_eq_true rfl⟩ (Nat.le_of_ble_eq_true rfl) dX7_pages_55) ?_
          refine J_if_lt (pc := 58) hX (tgt := 65) (by decide) dX7_pages_58 (fun h14 => ?_) (fun h14 => ?_)
          · refine J_iconst (pc := 65) hX (v := (0 : Int32)) (by decide) dX7_pages_65 ?_
            exact hk7 (0 : Int32)
          · refine J_iconst (pc := 61) hX (v := (1 : Int32)) (by decide) dX7_pages_61 ?_
            refine J_goto (pc := 62) hX (tgt := 66) (by decide) dX7_pages_62 ?_
            exact hk7 (1 : Int32)
        · refine J_aload_n (pc := 40) hX 0 rfl dX7_pages_40 ?_
          refine J_iload (pc := 41) hX 3 rfl dX7_pages_41 ?_
          refine J_call1 (fun y15 e16 => ?_)
          refine jrun_i (pc := 43) (jRunV hX s_X7_101 (ci := 7) (T := TX7) (N := 20) (As := [ji v3]) (rest := []) rfl (by decide) (C_X7_isAnywhere Y hz0 t0 ht0 v3 I0 L0 y15 e16) ht0 rfl rfl ⟨by decide, by decide⟩ ⟨Nat.le_of_ble_eq_true rfl, Nat.le_of_ble_eq_true rfl⟩ (Nat.le_of_ble_eq_true rfl) dX7_pages_43) ?_
          refine J_goto (pc := 46) hX (tgt := 66) (by decide) dX7_pages_46 ?_
          exact hk7 y15
    refine J_sub [2, 3, 1, 0] rfl ?_
    exact lhg4 1000 (0 : Int64) (0 : Int32)
  refine J_if_eq (pc := 1) hX (tgt := 24) (by decide) dX7_pages_1 (fun h17 => ?_) (fun h17 => ?_)
  · exact hk1
  · refine J_aload_n (pc := 4) hX 0 rfl dX7_pages_4 ?_
    refine J_iload_n (pc := 5) hX 1 rfl dX7_pages_5 ?_
    refine J_call1 (fun y18 e19 => ?_)
    refine jrun_i (pc := 6) (jRunV hX s_X7_147 (ci := 7) (T := TX7) (N := 20) (As := [ji p0]) (rest := []) rfl (by decide) (C_X7_isLevel Y hz0 t0 ht0 p0 I0 L0 y18 e19) ht0 rfl rfl ⟨by decide, by decide⟩ ⟨Nat.le_of_ble_eq_true rfl, Nat.le_of_ble_eq_true rfl⟩ (Nat.le_of_ble_eq_true rfl) dX7_pages_6) ?_
    refine J_if_ne (pc := 9) hX (tgt := 24) (by decide) dX7_pages_9 (fun h20 => ?_) (fun h20 => ?_)
    · exact hk1
    · refine J_aload_n (pc := 12) hX 0 rfl dX7_pages_12 ?_
      refine J_bipush (pc := 13) hX (v := (-52 : Int32)) (by decide) dX7_pages_13 ?_
      refine J_call2 (fun y21 I22 e23 => ?_)
      refine jrun_i (pc := 15) (jRunV hX s_X7_127 (ci := 7) (T := TX7) (N := 20) (As := [ji (-52 : Int32)]) (rest := []) rfl (by decide) (C_X7_refuses Y hz0 t0 ht0 (-52 : Int32) I0 L0 y21 I22 e23) ht0 rfl rfl ⟨by decide, by decide⟩ ⟨Nat.le_of_ble_eq_true rfl, Nat.le_of_ble_eq_true rfl⟩ (Nat.le_of_ble_eq_true rfl) dX7_pages_15) ?_
      refine J_i2l (pc := 18) hX dX7_pages_18 ?_
      refine J_ldc2 (pc := 19) hX q_X7_209 dX7_pages_19 ?_
      refine J_lsub (pc := 22) hX dX7_pages_22 ?_
      exact J_lret (pc := 23) hX (hQ _) dX7_pages_23
theorem C_X7_pages (Y : jY) (hz0 : Y.zf = false) (t0 : Nat) (ht0 : shC t0 = 8) (p0 : Int32) (I0 : jI) (L0 : jL) (r : Int64) (I1 : jI) (h : X7_pages t0 p0 I0 = some (r, I1)) : jMet Y yX7_pages cX7_pages 6 (some .long) 5 171 0 0 [jr t0, ji p0] NC shC rfC I0 L0 (some (jl r)) NC shC rfC I1 L0 :=
  jmet_of _ _ h (fun Z r => jQ Y Z 0 0 (some (jl r.1)) NC shC rfC r.2 L0) (fun _ => rfl) (by decide) (Nat.le_of_ble_eq_true rfl) (fun Z hX => W_X7_pages hz0 t0 ht0 p0 I0 L0 hX (fun _ => rfl))
def X7_in_F1 (t0 : Nat) (p0 : Int32) (I0 : jI) (g3 : Int32 → Int32 → Option (Int32)) : Int32 → Int32 → Option (Int32) := fun (v1 : Int32) (v2 : Int32) =>
if jin (688 : Int32) 784 then (
if (I0 (rfC t0 0) ((688 : Int32)).toNatClampNeg) ≤ v2 then (
some v1)
else (
(X7_found t0 v2 p0 I0).bind (fun (y6 : Int32) =>
jlet (if y6 < 0 then (0 : Int32) else (1 : Int32)) (fun (y9 : Int32) =>
jlet ((v1 + y9)) (fun (y10 : Int32) =>
g3 y10 (v2 + (1 : Int32))))))) else none
def X7_in (t0 : Nat) (p0 : Int32) (I0 : jI) : Option (Int32) :=
jfx (X7_in_F1 t0 p0 I0) (fun _ _ => none) 1000 (0 : Int32) (0 : Int32)
set_option maxRecDepth 20000 in
set_option maxHeartbeats 4000000 in
theorem W_X7_in {Y : jY} {Z : jZ} {Qf : Int32 → State → Prop} (hz0 : Y.zf = false) (t0 : Nat) (ht0 : shC t0 = 8) (p0 : Int32) (I0 : jI) (L0 : jL) (hX : jOK Y Z RX7 cX7_in 4 "in" (some .int) 4 148 0 0) (hQ : ∀ r : Int32, Qf r = jQ Y Z 0 0 (some (ji r)) NC shC rfC I0 L0) : J Y Z 4 Qf (X7_in t0 p0 I0) 0 [(0, jr t0), (1, ji p0)] [] 0 0 NC shC rfC I0 L0 := by
  unfold X7_in
  refine J_iconst (pc := 0) hX (v := (0 : Int32)) (by decide) dX7_in_0 ?_
  refine J_istore_n (pc := 1) hX (lo' := [(2, ji (0 : Int32)), (0, jr t0), (1, ji p0)]) (by decide) rfl dX7_in_1 ?_
  refine J_iconst (pc := 2) hX (v := (0 : Int32)) (by decide) dX7_in_2 ?_
  refine J_istore_n (pc := 3) hX (lo' := [(3, ji (0 : Int32)), (2, ji (0 : Int32)), (0, jr t0), (1, ji p0)]) (by decide) rfl dX7_in_3 ?_
  have lhg3 : ∀ mq : Nat, ∀ (v1 : Int32) (v2 : Int32), J Y Z 4 Qf (jfx (X7_in_F1 t0 p0 I0) (fun _ _ => none) mq v1 v2) 4 [(0, jr t0), (1, ji p0), (2, ji v1), (3, ji v2)] [] 0 0 NC shC rfC I0 L0 := by
    intro mq
    refine jfx_J (fun (_ : Nat) (g3 : Int32 → Int32 → Option (Int32)) => ∀ (v1 : Int32) (v2 : Int32), J Y Z 4 Qf (g3 v1 v2) 4 [(0, jr t0), (1, ji p0), (2, ji v1), (3, ji v2)] [] 0 0 NC shC rfC I0 L0) ?_ (fun _ g3 hg3 => ?_) mq
    · intro v1 v2
      exact J_none
    intro v1 v2
    unfold X7_in_F1
    try dsimp only
    refine J_iload_n (pc := 4) hX 3 rfl dX7_in_4 ?_
    refine J_aload_n (pc := 5) hX 0 rfl dX7_in_5 ?_
    refine g_X7_7 (pc := 6) hX ht0 dX7_in_6 ?_
    refine J_sipush (pc := 9) hX (v := (688 : Int32)) (by decide) dX7_in_9 ?_
    refine J_iald (pc := 12) hX (N := 784) (fs_7_0 t0 ht0) (by decide) dX7_in_12 (fun h4 => ?_)
    refine J_icmp_ge (pc := 13) hX (tgt := 39) (by decide) dX7_in_13 (fun h5 => ?_) (fun h5 => ?_)
    · refine J_iload_n (pc := 39) hX 2 rfl dX7_in_39 ?_
      exact J_iret (pc := 40) hX (hQ _) dX7_in_40
    · refine J_iload_n (pc := 16) hX 2 rfl dX7_in_16 ?_
      refine J_aload_n (pc := 17) hX 0 rfl dX7_in_17 ?_
      refine J_iload_n (pc := 18) hX 3 rfl dX7_in_18 ?_
      refine J_iload_n (pc := 19) hX 1 rfl dX7_in_19 ?_
      refine J_call1 (fun y6 e7 => ?_)
      refine jrun_i (pc := 20) (jRunV hX s_X7_73 (ci := 7) (T := TX7) (N := 20) (As := [ji v2, ji p0]) (rest := [ji v1]) rfl (by decide) (C_X7_found Y hz0 t0 ht0 v2 p0 I0 L0 y6 e7) ht0 rfl rfl ⟨by decide, by decide⟩ ⟨Nat.le_of_ble_eq_true rfl, Nat.le_of_ble_eq_true rfl⟩ (Nat.le_of_ble_eq_true rfl) dX7_in_20) ?_
      refine J_vjoin (fun kq (y9 : Int32) => J Y Z 4 Qf (kq) 31 [(0, jr t0), (1, ji p0), (2, ji v1), (3, ji v2)] [ji y9, ji v1] 0 0 NC shC rfC I0 L0) (fun y9 => ?_) (fun hj => ?_)
      · try dsimp only
        refine J_iadd (pc := 31) hX dX7_in_31 ?_
        refine J_leti (fun y10 => ?_)
        refine J_istore_n (pc := 32) hX (lo' := [(2, ji y10), (0, jr t0), (1, ji p0), (3, ji v2)]) (by decide) rfl dX7_in_32 ?_
        refine J_iinc (pc := 33) hX (v := (v2 + (1 : Int32))) (lo' := [(3, ji (v2 + (1 : Int32))), (2, ji y10), (0, jr t0), (1, ji p0)]) 3 rfl (by rfl) (by decide) rfl dX7_in_33 ?_
        refine J_goto (pc := 36) hX (tgt := 4) (by decide) dX7_in_36 ?_
        refine J_sub [2, 3, 1, 0] rfl ?_
        exact hg3 y10 (v2 + (1 : Int32))
      try dsimp only at hj
      refine J_if_ltV (pc := 23) hX (tgt := 30) (by decide) dX7_in_23 (fun h8 => ?_) (fun h8 => ?_)
      · refine J_iconst (pc := 30) hX (v := (0 : Int32)) (by decide) dX7_in_30 ?_
        exact hj _
      · refine J_iconst (pc := 26) hX (v := (1 : Int32)) (by decide) dX7_in_26 ?_
        refine J_goto (pc := 27) hX (tgt := 31) (by decide) dX7_in_27 ?_
        exact hj _
  refine J_sub [2, 3, 1, 0] rfl ?_
  exact lhg3 1000 (0 : Int32) (0 : Int32)
theorem C_X7_in (Y : jY) (hz0 : Y.zf = false) (t0 : Nat) (ht0 : shC t0 = 8) (p0 : Int32) (I0 : jI) (L0 : jL) (r : Int32) (h : X7_in t0 p0 I0 = some r) : jMet Y yX7_in cX7_in 4 (some .int) 4 148 0 0 [jr t0, ji p0] NC shC rfC I0 L0 (some (ji r)) NC shC rfC I0 L0 :=
  jmet_of _ _ h (fun Z r => jQ Y Z 0 0 (some (ji r)) NC shC rfC I0 L0) (fun _ => rfl) (by decide) (Nat.le_of_ble_eq_true rfl) (fun Z hX => W_X7_in hz0 t0 ht0 p0 I0 L0 hX (fun _ => rfl))
def X7_isDiffering_F1 (t0 : Nat) (p0 : Int32) (I0 : jI) (k8 : Int32 → Int32 → Option (Int32)) (g15 : Int32 → Int32 → Int32 → Option (Int32)) : Int32 → Int32 → Int32 → Option (Int32) := fun (v12 : Int32) (v13 : Int32) (v14 : Int32) =>
if v14 < 0 then (
k8 v12 v13)
else (
(X7_found t0 v14 p0 I0).bind (fun (y17 : Int32) =>
jlet (fun (v19 : Int32) (v20 : Int32) =>
g15 v19 v20 (v14 + (-1 : Int32))) (fun (k21 : Int32 → Int32 → Option (Int32)) =>
if y17 < 0 then (
k21 v12 v13)
else (
(X7_note t0 v14 y17 (1 : Int32) I0).bind (fun (y23 : Int32) =>
jlet (fun (v25 : Int32) =>
k21 v25 y23) (fun (k26 : Int32 → Option (Int32)) =>
jlet (
k26 (1 : Int32)) (fun (k27 : Option (Int32)) =>
if v12 = 0 then (
(X7_note t0 v14 y17 (2 : Int32) I0).bind (fun (y29 : Int32) =>
if y29 = (1 : Int32) then (
k27)
else (
k26 (0 : Int32))))
else (
k27))))))))
def X7_isDiffering (t0 : Nat) (p0 : Int32) (p1 : Int32) (I0 : jI) : Option (Int32) :=
if p1 = (2 : Int32) then (
(X7_in t0 p0 I0).bind (fun (y32 : Int32) =>
if y32 ≤ (1 : Int32) then (
some (0 : Int32))
else (
some (1 : Int32))))
else (
if jin p0 784 then (
jlet ((I0 (rfC t0 0) (p0).toNatClampNeg)) (fun (y3 : Int32) =>
if jin (688 : Int32) 784 then (
jlet (((I0 (rfC t0 0) ((688 : Int32)).toNatClampNeg) - (1 : Int32))) (fun (y5 : Int32) =>
jlet (fun (v6 : Int32) (v7 : Int32) =>
if p1 = 0 then (
if jin p0 784 then (
if v7 = (I0 (rfC t0 0) (p0).toNatClampNeg) then (
some (0 : Int32))
else (
some (1 : Int32))) else none)
else (
if v6 = 0 ∨ v6 = 1 then some v6 else none)) (fun (k8 : Int32 → Int32 → Option (Int32)) =>
jfx (X7_isDiffering_F1 t0 p0 I0 k8) (fun _ _ _ => none) 1000 (0 : Int32) y3 y5))) else none)) else none)
set_option maxRecDepth 20000 in
set_option maxHeartbeats 4000000 in
theorem W_X7_isDiffering {Y : jY} {Z : jZ} {Qf : Int32 → State → Prop} (hz0 : Y.zf = false) (t0 : Nat) (ht0 : shC t0 = 8) (p0 : Int32) (p1 : Int32) (I0 : jI) (L0 : jL) (hX : jOK Y Z RX7 cX7_isDiffering 7 "isDiffering" (some .boolean) 5 171 0 0) (hQ : ∀ r : Int32, Qf r = jQ Y Z 0 0 (some (ji r)) NC shC rfC I0 L0) : J Y Z 7 Qf (X7_isDiffering t0 p0 p1 I0) 0 [(0, jr t0), (1, ji p0), (2, ji p1)] [] 0 0 NC shC rfC I0 L0 := by
  unfold X7_isDiffering
  refine J_iload_n (pc := 0) hX 2 rfl dX7_isDiffering_0 ?_
  refine J_iconst (pc := 1) hX (v := (2 : Int32)) (by decide) dX7_isDiffering_1 ?_
  refine J_icmp_ne (pc := 2) hX (tgt := 20) (by decide) dX7_isDiffering_2 (fun h1 => ?_) (fun h1 => ?_)
  · refine J_iconst (pc := 20) hX (v := (0 : Int32)) (by decide) dX7_isDiffering_20 ?_
    refine J_istore_n (pc := 21) hX (lo' := [(3, ji (0 : Int32)), (0, jr t0), (1, ji p0), (2, ji p1)]) (by decide) rfl dX7_isDiffering_21 ?_
    refine J_aload_n (pc := 22) hX 1 rfl dX7_isDiffering_22 ?_
    refine g_X7_7 (pc := 23) hX ht0 dX7_isDiffering_23 ?_
    refine J_iload_n (pc := 26) hX 2 rfl dX7_isDiffering_26 ?_
    refine J_iald (pc := 27) hX (N := 784) (fs_7_0 t0 ht0) (by decide) dX7_isDiffering_27 (fun h2 => ?_)
    refine J_leti (fun y3 => ?_)
    refine J_istore (pc := 28) hX (lo' := [(4, ji y3), (3, ji (0 : Int32)), (0, jr t0), (1, ji p0), (2, ji p1)]) (by decide) rfl dX7_isDiffering_28 ?_
    refine J_aload_n (pc := 30) hX 2 rfl dX7_isDiffering_30 ?_
    refine g_X7_7 (pc := 31) hX ht0 dX7_isDiffering_31 ?_
    refine J_sipush (pc := 34) hX (v := (688 : Int32)) (by decide) dX7_isDiffering_34 ?_
    refine J_iald (pc := 37) hX (N := 784) (fs_7_0 t0 ht0) (by decide) dX7_isDiffering_37 (fun h4 => ?_)
    refine J_iconst (pc := 38) hX (v := (1 : Int32)) (by decide) dX7_isDiffering_38 ?_
    refine J_isub (pc := 39) hX dX7_isDiffering_39 ?_
    refine J_leti (fun y5 => ?_)
    refine J_istore (pc := 40) hX (lo' := [(5, ji y5), (4, ji y3), (3, ji (0 : Int32)), (0, jr t0), (1, ji p0), (2, ji p1)]) (by decide) rfl dX7_isDiffering_40 ?_
    refine J_join (fun (k8 : Int32 → Int32 → Option (Int32)) => ∀ (v6 : Int32) (v7 : Int32), J Y Z 7 Qf (k8 v6 v7) 101 [(0, jr t0), (1, ji p0), (2, ji p1), (3, ji v6), (4, ji v7)] [] 0 0 NC shC rfC I0 L0) ?_ (fun k8 hk8 => ?_)
    · intro v6 v7
      try dsimp only
      refine J_iload_n (pc := 101) hX 2 rfl dX7_isDiffering_101 ?_
      refine J_if_ne (pc := 102) hX (tgt := 124) (by decide) dX7_isDiffering_102 (fun h9 => ?_) (fun h9 => ?_)
      · refine J_iload_n (pc := 124) hX 3 rfl dX7_isDiffering_124 ?_
        exact J_zretG (pc := 125) hX (hQ _) dX7_isDiffering_125
      · refine J_iload (pc := 105) hX 4 rfl dX7_isDiffering_105 ?_
        refine J_aload_n (pc := 107) hX 0 rfl dX7_isDiffering_107 ?_
        refine g_X7_7 (pc := 108) hX ht0 dX7_isDiffering_108 ?_
        refine J_iload_n (pc := 111) hX 1 rfl dX7_isDiffering_111 ?_
        refine J_iald (pc := 112) hX (N := 784) (fs_7_0 t0 ht0) (by decide) dX7_isDiffering_112 (fun h10 => ?_)
        refine J_icmp_eq (pc := 113) hX (tgt := 120) (by decide) dX7_isDiffering_113 (fun h11 => ?_) (fun h11 => ?_)
        · refine J_iconst (pc := 120) hX (v := (0 : Int32)) (by decide) dX7_isDiffering_120 ?_
          refine J_goto (pc := 121) hX (tgt := 125) (by decide) dX7_isDiffering_121 ?_
          exact J_zret (pc := 125) hX (by decide) (hQ _) dX7_isDiffering_125
        · refine J_iconst (pc := 116) hX (v := (1 : Int32)) (by decide) dX7_isDiffering_116 ?_
          refine J_goto (pc := 117) hX (tgt := 125) (by decide) dX7_isDiffering_117 ?_
          exact J_zret (pc := 125) hX (by decide) (hQ _) dX7_isDiffering_125
    have lhg15 : ∀ mq : Nat, ∀ (v12 : Int32) (v13 : Int32) (v14 : Int32), J Y Z 7 Qf (jfx (X7_isDiffering_F1 t0 p0 I0 k8) (fun _ _ _ => none) mq v12 v13 v14) 42 [(0, jr t0), (1, ji p0), (2, ji p1), (3, ji v12), (4, ji v13), (5, ji v14)] [] 0 0 NC shC rfC I0 L0 := by
      intro mq
      refine jfx_J (fun (_ : Nat) (g15 : Int32 → Int32 → Int32 → Option (Int32)) => ∀ (v12 : Int32) (v13 : Int32) (v14 : Int32), J Y Z 7 Qf (g15 v12 v13 v14) 42 [(0, jr t0), (1, ji p0), (2, ji p1), (3, ji v12), (4, ji v13), (5, ji v14)] [] 0 0 NC shC rfC I0 L0) ?_ (fun _ g15 hg15 => ?_) mq
      · intro v12 v13 v14
        exact J_none
      intro v12 v13 v14
      unfold X7_isDiffering_F1
      try dsimp only
      refine J_iload (pc := 42) hX 5 rfl dX7_isDiffering_42 ?_
      refine J_if_lt (pc := 44) hX (tgt := 101) (by decide) dX7_isDiffering_44 (fun h16 => ?_) (fun h16 => ?_)
      · refine J_sub [0, 1, 2, 3, 4] rfl ?_
        exact hk8 v12 v13
      · refine J_aload_n (pc := 47) hX 0 rfl dX7_isDiffering_47 ?_
        refine J_iload (pc := 48) hX 5 rfl dX7_isDiffering_48 ?_
        refine J_iload_n (pc := 50) hX 1 rfl dX7_isDiffering_50 ?_
        refine J_call1 (fun y17 e18 => ?_)
        refine jrun_i (pc := 51) (jRunV hX s_X7_73 (ci := 7) (T := TX7) (N := 20) (As := [ji v14, ji p0]) (rest := []) rfl (by decide) (C_X7_found Y hz0 t0 ht0 v14 p0 I0 L0 y17 e18) ht0 rfl rfl ⟨by decide, by decide⟩ ⟨Nat.le_of_ble_eq_true rfl, Nat.le_of_ble_eq_true rfl⟩ (Nat.le_of_ble_eq_true rfl) dX7_isDiffering_51) ?_
        refine J_istore (pc := 54) hX (lo' := [(6, ji y17), (0, jr t0), (1, ji p0), (2, ji p1), (3, ji v12), (4, ji v13), (5, ji v14)]) (by decide) rfl dX7_isDiffering_54 ?_
        refine J_iload (pc := 56) hX 0 rfl dX7_isDiffering_56 ?_
        refine J_join (fun (k21 : Int32 → Int32 → Option (Int32)) => ∀ (v19 : Int32) (v20 : Int32), J Y Z 7 Qf (k21 v19 v20) 95 [(0, jr t0), (1, ji p0), (2, ji p1), (3, ji v19), (4, ji v20), (5, ji v14)] [] 0 0 NC shC rfC I0 L0) ?_ (fun k21 hk21 => ?_)
        · intro v19 v20
          try dsimp only
          refine J_iinc (pc := 95) hX (v := (v14 + (-1 : Int32))) (lo' := [(5, ji (v14 + (-1 : Int32))), (0, jr t0), (1, ji p0), (2, ji p1), (3, ji v19), (4, ji v20)]) 5 rfl (by rfl) (by decide) rfl dX7_isDiffering_95 ?_
          refine J_goto (pc := 98) hX (tgt := 42) (by decide) dX7_isDiffering_98 ?_
          refine J_sub [1, 2, 3, 4, 5, 0] rfl ?_
          exact hg15 v19 v20 (v14 + (-1 : Int32))
        refine J_if_lt (pc := 58) hX (tgt := 95) (by decide) dX7_isDiffering_58 (fun h22 => ?_) (fun h22 => ?_)
        · refine J_sub [1, 2, 3, 4, 5, 6] rfl ?_
          exact hk21 v12 v13
        · refine J_aload_n (pc := 61) hX 1 rfl dX7_isDiffering_61 ?_
          refine J_iload (pc := 62) hX 6 rfl dX7_isDiffering_62 ?_
          refine J_iload (pc := 64) hX 0 rfl dX7_isDiffering_64 ?_
          refine J_iconst (pc := 66) hX (v := (1 : Int32)) (by decide) dX7_isDiffering_66 ?_
          refine J_call1 (fun y23 e24 => ?_)
          refine jrun_i (pc := 67) (jRunV hX s_X7_62 (ci := 7) (T := TX7) (N := 20) (As := [ji v14, ji y17, ji (1 : Int32)]) (rest := []) rfl (by decide) (C_X7_note Y hz0 t0 ht0 v14 y17 (1 : Int32) I0 L0 y23 e24) ht0 rfl rfl ⟨by decide, by decide⟩ ⟨Nat.le_of_ble_eq_true rfl, Nat.le_of_ble_eq_true rfl⟩ (Nat.le_of_ble_eq_true rfl) dX7_isDiffering_67) ?_
          refine J_istore (pc := 70) hX (lo' := [(4, ji y23), (6, ji y17), (0, jr t0), (1, ji p0), (2, ji p1), (3, ji v12), (5, ji v14)]) (by decide) rfl dX7_isDiffering_70 ?_
          refine J_iload_n (pc := 72) hX 5 rfl dX7_isDiffering_72 ?_
          refine J_join (fun (k26 : Int32 → Option (Int32)) => ∀ (v25 : Int32), J Y Z 7 Qf (k26 v25) 94 [(0, jr t0), (1, ji p0), (2, ji p1), (4, ji y23), (5, ji v14)] [ji v25] 0 0 NC shC rfC I0 L0) ?_ (fun k26 hk26 => ?_)
          · intro v25
            try dsimp only
            refine J_istore_n (pc := 94) hX (lo' := [(3, ji v25), (0, jr t0), (1, ji p0), (2, ji p1), (4, ji y23), (5, ji v14)]) (by decide) rfl dX7_isDiffering_94 ?_
            refine J_sub [1, 2, 3, 0, 4, 5] rfl ?_
            exact hk21 v25 y23
          refine J_join (fun (k27 : Option (Int32)) => J Y Z 7 Qf (k27) 89 [(0, jr t0), (1, ji p0), (2, ji p1), (4, ji y23), (5, ji v14)] [] 0 0 NC shC rfC I0 L0) ?_ (fun k27 hk27 => ?_)
          · refine J_iconst (pc := 89) hX (v := (1 : Int32)) (by decide) dX7_isDiffering_89 ?_
            refine J_goto (pc := 90) hX (tgt := 94) (by decide) dX7_isDiffering_90 ?_
            exact hk26 (1 : Int32)
          refine J_if_ne (pc := 73) hX (tgt := 89) (by decide) dX7_isDiffering_73 (fun h28 => ?_) (fun h28 => ?_)
          · refine J_sub [2, 3, 4, 0, 6] rfl ?_
            exact hk27
          · refine J_aload_n (pc := 76) hX 2 rfl dX7_isDiffering_76 ?_
            refine J_iload (pc := 77) hX 6 rfl dX7_isDiffering_77 ?_
            refine J_iload (pc := 79) hX 1 rfl dX7_isDiffering_79 ?_
            refine J_iconst (pc := 81) hX (v := (2 : Int32)) (by decide) dX7_isDiffering_81 ?_
            refine J_call1 (fun y29 e30 => ?_)
            refine jrun_i (pc := 82) (jRunV hX s_X7_62 (ci := 7) (T := TX7) (N := 20) (As := [ji v14, ji y17, ji (2 : Int32)]) (rest := []) rfl (by decide) (C_X7_note Y hz0 t0 ht0 v14 y17 (2 : Int32) I0 L0 y29 e30) ht0 rfl rfl ⟨by decide, by decide⟩ ⟨Nat.le_of_ble_eq_true rfl, Nat.le_of_ble_eq_true rfl⟩ (Nat.le_of_ble_eq_true rfl) dX7_isDiffering_82) ?_
            refine J_iconst (pc := 85) hX (v := (1 : Int32)) (by decide) dX7_isDiffering_85 ?_
            refine J_icmp_ne (pc := 86) hX (tgt := 93) (by decide) dX7_isDiffering_86 (fun h31 => ?_) (fun h31 => ?_)
            · refine J_iconst (pc := 93) hX (v := (0 : Int32)) (by decide) dX7_isDiffering_93 ?_
              refine J_sub [2, 3, 4, 0, 6] rfl ?_
              exact hk26 (0 : Int32)
            · refine J_sub [2, 3, 4, 0, 6] rfl ?_
              exact hk27
    refine J_sub [3, 4, 5, 2, 1, 0] rfl ?_
    exact lhg15 1000 (0 : Int32) y3 y5
  · refine J_aload_n (pc := 5) hX 0 rfl dX7_isDiffering_5 ?_
    refine J_iload_n (pc := 6) hX 1 rfl dX7_isDiffering_6 ?_
    refine J_call1 (fun y32 e33 => ?_)
    refine jrun_i (pc := 7) (jRunV hX s_X7_211 (ci := 7) (T := TX7) (N := 20) (As := [ji p0]) (rest := []) rfl (by decide) (C_X7_in Y hz0 t0 ht0 p0 I0 L0 y32 e33) ht0 rfl rfl ⟨by decide, by decide⟩ ⟨Nat.le_of_ble_eq_true rfl, Nat.le_of_ble_eq_true rfl⟩ (Nat.le_of_ble_eq_true rfl) dX7_isDiffering_7) ?_
    refine J_iconst (pc := 10) hX (v := (1 : Int32)) (by decide) dX7_isDiffering_10 ?_
    refine J_icmp_le (pc := 11) hX (tgt := 18) (by decide) dX7_isDiffering_11 (fun h34 => ?_) (fun h34 => ?_)
    · refine J_iconst (pc := 18) hX (v := (0 : Int32)) (by decide) dX7_isDiffering_18 ?_
      exact J_zret (pc := 19) hX (by decide) (hQ _) dX7_isDiffering_19
    · refine J_iconst (pc := 14) hX (v := (1 : Int32)) (by decide) dX7_isDiffering_14 ?_
      refine J_goto (pc := 15) hX (tgt := 19) (by decide) dX7_isDiffering_15 ?_
      exact J_zret (pc := 19) hX (by decide) (hQ _) dX7_isDiffering_19
theorem C_X7_isDiffering (Y : jY) (hz0 : Y.zf = false) (t0 : Nat) (ht0 : shC t0 = 8) (p0 : Int32) (p1 : Int32) (I0 : jI) (L0 : jL) (r : Int32) (h : X7_isDiffering t0 p0 p1 I0 = some r) : jMet Y yX7_isDiffering cX7_isDiffering 7 (some .boolean) 5 171 0 0 [jr t0, ji p0, ji p1] NC shC rfC I0 L0 (some (ji r)) NC shC rfC I0 L0 :=
  jmet_of _ _ h (fun Z r => jQ Y Z 0 0 (some (ji r)) NC shC rfC I0 L0) (fun _ => rfl) (by decide) (Nat.le_of_ble_eq_true rfl) (fun Z hX => W_X7_isDiffering hz0 t0 ht0 p0 p1 I0 L0 hX (fun _ => rfl))
def X7_differ_F1 (t0 : Nat) (p0 : Int32) (I0 : jI) (g6 : Int64 → Int32 → Option (Int64 × jI)) : Int64 → Int32 → Option (Int64 × jI) := fun (v4 : Int64) (v5 : Int32) =>
if (64 : Int32) ≤ v5 then (
some (v4, I0))
else (
(X7_isDiffering t0 v5 p0 I0).bind (fun (y8 : Int32) =>
jlet (if y8 = 0 then (0 : Int64) else (jlshl (1 : Int64) v5)) (fun (y11 : Int64) =>
jlet ((v4 ||| y11)) (fun (y12 : Int64) =>
g6 y12 (v5 + (1 : Int32))))))
def X7_differ (t0 : Nat) (p0 : Int32) (I0 : jI) : Option (Int64 × jI) :=
(X7_isIn ((p0).toInt64) (0 : Int64) (2 : Int64)).bind (fun (y1 : Int32) =>
if y1 = 0 then (
jb2 (X7_refuses t0 (-52 : Int32) I0) (fun (y13 : Int32) (I14 : jI) =>
some (((y13).toInt64 - (9000000000000000000 : Int64)), I14)))
else (
jfx (X7_differ_F1 t0 p0 I0) (fun _ _ => none) 1000 (0 : Int64) (0 : Int32)))
set_option maxRecDepth 20000 in
set_option maxHeartbeats 4000000 in
theorem W_X7_differ {Y : jY} {Z : jZ} {Qf : Int64 × jI → State → Prop} (hz0 : Y.zf = false) (t0 : Nat) (ht0 : shC t0 = 8) (p0 : Int32) (I0 : jI) (L0 : jL) (hX : jOK Y Z RX7 cX7_differ 5 "differ" (some .long) 6 197 0 0) (hQ : ∀ r : Int64 × jI, Qf r = jQ Y Z 0 0 (some (jl r.1)) NC shC rfC r.2 L0) : J Y Z 5 Qf (X7_differ t0 p0 I0) 0 [(0, jr t0), (1, ji p0)] [] 0 0 NC shC rfC I0 L0 := by
  unfold X7_differ
  refine J_iload_n (pc := 0) hX 1 rfl dX7_differ_0 ?_
  refine J_i2l (pc := 1) hX dX7_differ_1 ?_
  refine J_lconst (pc := 2) hX (v := (0 : Int64)) (by decide) dX7_differ_2 ?_
  refine J_ldc2 (pc := 3) hX q_X7_133 dX7_differ_3 ?_
  refine J_call1 (fun y1 e2 => ?_)
  refine jrun_i (pc := 6) (jRunS hX s_X7_47 (As := [jl ((p0).toInt64), jl (0 : Int64), jl (2 : Int64)]) (rest := []) (C_X7_isIn Y hz0 ((p0).toInt64) (0 : Int64) (2 : Int64) I0 L0 y1 e2) rfl rfl ⟨by decide, by decide⟩ ⟨Nat.le_of_ble_eq_true rfl, Nat.le_of_ble_eq_true rfl⟩ (Nat.le_of_ble_eq_true rfl) dX7_differ_6) ?_
  refine J_if_ne (pc := 9) hX (tgt := 24) (by decide) dX7_differ_9 (fun h3 => ?_) (fun h3 => ?_)
  · refine J_lconst (pc := 24) hX (v := (0 : Int64)) (by decide) dX7_differ_24 ?_
    refine J_lstore_n (pc := 25) hX (lo' := [(2, jl (0 : Int64)), (0, jr t0), (1, ji p0)]) (by decide) rfl dX7_differ_25 ?_
    refine J_iconst (pc := 26) hX (v := (0 : Int32)) (by decide) dX7_differ_26 ?_
    refine J_istore (pc := 27) hX (lo' := [(4, ji (0 : Int32)), (2, jl (0 : Int64)), (0, jr t0), (1, ji p0)]) (by decide) rfl dX7_differ_27 ?_
    have lhg6 : ∀ mq : Nat, ∀ (v4 : Int64) (v5 : Int32), J Y Z 5 Qf (jfx (X7_differ_F1 t0 p0 I0) (fun _ _ => none) mq v4 v5) 29 [(0, jr t0), (1, ji p0), (2, jl v4), (4, ji v5)] [] 0 0 NC shC rfC I0 L0 := by
      intro mq
      refine jfx_J (fun (_ : Nat) (g6 : Int64 → Int32 → Option (Int64 × jI)) => ∀ (v4 : Int64) (v5 : Int32), J Y Z 5 Qf (g6 v4 v5) 29 [(0, jr t0), (1, ji p0), (2, jl v4), (4, ji v5)] [] 0 0 NC shC rfC I0 L0) ?_ (fun _ g6 hg6 => ?_) mq
      · intro v4 v5
        exact J_none
      intro v4 v5
      unfold X7_differ_F1
      try dsimp only
      refine J_iload (pc := 29) hX 3 rfl dX7_differ_29 ?_
      refine J_bipush (pc := 31) hX (v := (64 : Int32)) (by decide) dX7_differ_31 ?_
      refine J_icmp_ge (pc := 33) hX (tgt := 63) (by decide) dX7_differ_33 (fun h7 => ?_) (fun h7 => ?_)
      · refine J_lload_n (pc := 63) hX 2 rfl dX7_differ_63 ?_
        exact J_lret (pc := 64) hX (hQ _) dX7_differ_64
      · refine J_lload_n (pc := 36) hX 2 rfl dX7_differ_36 ?_
        refine J_aload_n (pc := 37) hX 0 rfl dX7_differ_37 ?_
        refine J_iload (pc := 38) hX 3 rfl dX7_differ_38 ?_
        refine J_iload_n (pc := 40) hX 1 rfl dX7_differ_40 ?_
        refine J_call1 (fun y8 e9 => ?_)
        refine jrun_i (pc := 41) (jRunV hX s_X7_214 (ci := 7) (T := TX7) (N := 20) (As := [ji v5, ji p0]) (rest := [jl v4]) rfl (by decide) (C_X7_isDiffering Y hz0 t0 ht0 v5 p0 I0 L0 y8 e9) ht0 rfl rfl ⟨by decide, by decide⟩ ⟨Nat.le_of_ble_eq_true rfl, Nat.le_of_ble_eq_true rfl⟩ (Nat.le_of_ble_eq_true rfl) dX7_differ_41) ?_
        refine J_vjoin (fun kq (y11 : Int64) => J Y Z 5 Qf (kq) 55 [(0, jr t0), (1, ji p0), (2, jl v4), (4, ji v5)] [jl y11, jl v4] 0 0 NC shC rfC I0 L0) (fun y11 => ?_) (fun hj => ?_)
        · try dsimp only
          refine J_lor (pc := 55) hX dX7_differ_55 ?_
          refine J_letl (fun y12 => ?_)
          refine J_lstore_n (pc := 56) hX (lo' := [(2, jl y12), (0, jr t0), (1, ji p0), (4, ji v5)]) (by decide) rfl dX7_differ_56 ?_
          refine J_iinc (pc := 57) hX (v := (v5 + (1 : Int32))) (lo' := [(4, ji (v5 + (1 : Int32))), (2, jl y12), (0, jr t0), (1, ji p0)]) 3 rfl (by rfl) (by decide) rfl dX7_differ_57 ?_
          refine J_goto (pc := 60) hX (tgt := 29) (by decide) dX7_differ_60 ?_
          refine J_sub [2, 3, 1, 0] rfl ?_
          exact hg6 y12 (v5 + (1 : Int32))
        try dsimp only at hj
        refine J_if_eqV (pc := 44) hX (tgt := 54) (by decide) dX7_differ_44 (fun h10 => ?_) (fun h10 => ?_)
        · refine J_lconst (pc := 54) hX (v := (0 : Int64)) (by decide) dX7_differ_54 ?_
          exact hj _
        · refine J_lconst (pc := 47) hX (v := (1 : Int64)) (by decide) dX7_differ_47 ?_
          refine J_iload (pc := 48) hX 3 rfl dX7_differ_48 ?_
          refine J_lshl (pc := 50) hX dX7_differ_50 ?_
          refine J_goto (pc := 51) hX (tgt := 55) (by decide) dX7_differ_51 ?_
          exact hj _
    refine J_sub [2, 3, 1, 0] rfl ?_
    exact lhg6 1000 (0 : Int64) (0 : Int32)
  · refine J_aload_n (pc := 12) hX 0 rfl dX7_differ_12 ?_
    refine J_bipush (pc := 13) hX (v := (-52 : Int32)) (by decide) dX7_differ_13 ?_
    refine J_call2 (fun y13 I14 e15 => ?_)
    refine jrun_i (pc := 15) (jRunV hX s_X7_127 (ci := 7) (T := TX7) (N := 20) (As := [ji (-52 : Int32)]) (rest := []) rfl (by decide) (C_X7_refuses Y hz0 t0 ht0 (-52 : Int32) I0 L0 y13 I14 e15) ht0 rfl rfl ⟨by decide, by decide⟩ ⟨Nat.le_of_ble_eq_true rfl, Nat.le_of_ble_eq_true rfl⟩ (Nat.le_of_ble_eq_true rfl) dX7_differ_15) ?_
    refine J_i2l (pc := 18) hX dX7_differ_18 ?_
    refine J_ldc2 (pc := 19) hX q_X7_209 dX7_differ_19 ?_
    refine J_lsub (pc := 22) hX dX7_differ_22 ?_
    exact J_lret (pc := 23) hX (hQ _) dX7_differ_23
theorem C_X7_differ (Y : jY) (hz0 : Y.zf = false) (t0 : Nat) (ht0 : shC t0 = 8) (p0 : Int32) (I0 : jI) (L0 : jL) (r : Int64) (I1 : jI) (h : X7_differ t0 p0 I0 = some (r, I1)) : jMet Y yX7_differ cX7_differ 5 (some .long) 6 197 0 0 [jr t0, ji p0] NC shC rfC I0 L0 (some (jl r)) NC shC rfC I1 L0 :=
  jmet_of _ _ h (fun Z r => jQ Y Z 0 0 (some (jl r.1)) NC shC rfC r.2 L0) (fun _ => rfl) (by decide) (Nat.le_of_ble_eq_true rfl) (fun Z hX => W_X7_differ hz0 t0 ht0 p0 I0 L0 hX (fun _ => rfl))
def X7_kept_F1 (t0 : Nat) (I0 : jI) (v5 : Int32) (k12 : Int32 → Option (Int32)) (g15 : Int32 → Int32 → Option (Int32)) : Int32 → Int32 → Option (Int32) := fun (v13 : Int32) (v14 : Int32) =>
if jin (688 : Int32) 784 then (
if (I0 (rfC t0 0) ((688 : Int32)).toNatClampNeg) ≤ (v14 + (1 : Int32)) then (
k12 v13)
else (
if jin (689 : Int32) 784 then (
if (I0 (rfC t0 0) ((689 : Int32)).toNatClampNeg) = (1 : Int32) then (
jlet (fun (v20 : Int32) =>
g15 v20 (v14 + (1 : Int32))) (fun (k21 : Int32 → Option (Int32)) =>
jlet (
k21 (0 : Int32)) (fun (k22 : Option (Int32)) =>
if v13 = 0 then (
k22)
else (
(X7_found t0 v14 v5 I0).bind (fun (y24 : Int32) =>
jlet (
k21 (1 : Int32)) (fun (k26 : Option (Int32)) =>
if y24 < 0 then (
k26)
else (
(X7_found t0 (v14 + (1 : Int32)) v5 I0).bind (fun (y28 : Int32) =>
if y28 < 0 then (
k22)
else (
k26)))))))))
else (
k12 v13)) else none)) else none
def X7_kept_F2 (t0 : Nat) (I0 : jI) (k2 : Int32 → Option (Int32)) (g6 : Int32 → Int32 → Option (Int32)) : Int32 → Int32 → Option (Int32) := fun (v4 : Int32) (v5 : Int32) =>
if (64 : Int32) ≤ v5 then (
k2 v4)
else (
if jin (689 : Int32) 784 then (
jlet (fun (v9 : Int32) =>
jlet (fun (v11 : Int32) =>
g6 v11 (v5 + (1 : Int32))) (fun (k12 : Int32 → Option (Int32)) =>
jfx (X7_kept_F1 t0 I0 v5 k12) (fun _ _ => none) 1000 v9 (0 : Int32))) (fun (k10 : Int32 → Option (Int32)) =>
if (I0 (rfC t0 0) ((689 : Int32)).toNatClampNeg) = (2 : Int32) then (
jlet (fun (v32 : Int32) =>
k10 v32) (fun (k33 : Int32 → Option (Int32)) =>
jlet (
k33 (0 : Int32)) (fun (k34 : Option (Int32)) =>
if v4 = 0 then (
k34)
else (
(X7_in t0 v5 I0).bind (fun (y36 : Int32) =>
if (2 : Int32) ≤ y36 then (
k34)
else (
k33 (1 : Int32)))))))
else (
k10 v4))) else none)
def X7_kept (t0 : Nat) (I0 : jI) : Option (Int32) :=
jlet (fun (v1 : Int32) =>
if v1 = 0 then (
some (0 : Int32))
else (
some (1 : Int32))) (fun (k2 : Int32 → Option (Int32)) =>
jfx (X7_kept_F2 t0 I0 k2) (fun _ _ => none) 1000 (1 : Int32) (0 : Int32))
set_option maxRecDepth 20000 in
set_option maxHeartbeats 4000000 in
theorem W_X7_kept {Y : jY} {Z : jZ} {Qf : Int32 → State → Prop} (hz0 : Y.zf = false) (t0 : Nat) (ht0 : shC t0 = 8) (I0 : jI) (L0 : jL) (hX : jOK Y Z RX7 cX7_kept 4 "kept" (some .int) 5 171 0 0) (hQ : ∀ r : Int32, Qf r = jQ Y Z 0 0 (some (ji r)) NC shC rfC I0 L0) : J Y Z 4 Qf (X7_kept t0 I0) 0 [(0, jr t0)] [] 0 0 NC shC rfC I0 L0 := by
  unfold X7_kept
  refine J_iconst (pc := 0) hX (v := (1 : Int32)) (by decide) dX7_kept_0 ?_
  refine J_istore_n (pc := 1) hX (lo' := [(1, ji (1 : Int32)), (0, jr t0)]) (by decide) rfl dX7_kept_1 ?_
  refine J_iconst (pc := 2) hX (v := (0 : Int32)) (by decide) dX7_kept_2 ?_
  refine J_istore_n (pc := 3) hX (lo' := [(2, ji (0 : Int32)), (1, ji (1 : Int32)), (0, jr t0)]) (by decide) rfl dX7_kept_3 ?_
  refine J_join (fun (k2 : Int32 → Option (Int32)) => ∀ (v1 : Int32), J Y Z 4 Qf (k2 v1) 111 [(1, ji v1)] [] 0 0 NC shC rfC I0 L0) ?_ (fun k2 hk2 => ?_)
  · intro v1
    try dsimp only
    refine J_iload_n (pc := 111) hX 0 rfl dX7_kept_111 ?_
    refine J_if_eq (pc := 112) hX (tgt := 119) (by decide) dX7_kept_112 (fun h3 => ?_) (fun h3 => ?_)
    · refine J_iconst (pc := 119) hX (v := (0 : Int32)) (by decide) dX7_kept_119 ?_
      exact J_iret (pc := 120) hX (hQ _) dX7_kept_120
    · refine J_iconst (pc := 115) hX (v := (1 : Int32)) (by decide) dX7_kept_115 ?_
      refine J_goto (pc := 116) hX (tgt := 120) (by decide) dX7_kept_116 ?_
      exact J_iret (pc := 120) hX (hQ _) dX7_kept_120
  have lhg6 : ∀ mq : Nat, ∀ (v4 : Int32) (v5 : Int32), J Y Z 4 Qf (jfx (X7_kept_F2 t0 I0 k2) (fun _ _ => none) mq v4 v5) 4 [(0, jr t0), (1, ji v4), (2, ji v5)] [] 0 0 NC shC rfC I0 L0 := by
    intro mq
    refine jfx_J (fun (_ : Nat) (g6 : Int32 → Int32 → Option (Int32)) => ∀ (v4 : Int32) (v5 : Int32), J Y Z 4 Qf (g6 v4 v5) 4 [(0, jr t0), (1, ji v4), (2, ji v5)] [] 0 0 NC shC rfC I0 L0) ?_ (fun _ g6 hg6 => ?_) mq
    · intro v4 v5
      exact J_none
    intro v4 v5
    unfold X7_kept_F2
    try dsimp only
    refine J_iload_n (pc := 4) hX 2 rfl dX7_kept_4 ?_
    refine J_bipush (pc := 5) hX (v := (64 : Int32)) (by decide) dX7_kept_5 ?_
    refine J_icmp_ge (pc := 7) hX (tgt := 111) (by decide) dX7_kept_7 (fun h7 => ?_) (fun h7 => ?_)
    · refine J_sub [1] rfl ?_
      exact hk2 v4
    · refine J_aload_n (pc := 10) hX 0 rfl dX7_kept_10 ?_
      refine g_X7_7 (pc := 11) hX ht0 dX7_kept_11 ?_
      refine J_sipush (pc := 14) hX (v := (689 : Int32)) (by decide) dX7_kept_14 ?_
      refine J_iald (pc := 17) hX (N := 784) (fs_7_0 t0 ht0) (by decide) dX7_kept_17 (fun h8 => ?_)
      refine J_iconst (pc := 18) hX (v := (2 : Int32)) (by decide) dX7_kept_18 ?_
      refine J_join (fun (k10 : Int32 → Option (Int32)) => ∀ (v9 : Int32), J Y Z 4 Qf (k10 v9) 41 [(0, jr t0), (1, ji v9), (2, ji v5)] [] 0 0 NC shC rfC I0 L0) ?_ (fun k10 hk10 => ?_)
      · intro v9
        try dsimp only
        refine J_iconst (pc := 41) hX (v := (0 : Int32)) (by decide) dX7_kept_41 ?_
        refine J_istore_n (pc := 42) hX (lo' := [(3, ji (0 : Int32)), (0, jr t0), (1, ji v9), (2, ji v5)]) (by decide) rfl dX7_kept_42 ?_
        refine J_join (fun (k12 : Int32 → Option (Int32)) => ∀ (v11 : Int32), J Y Z 4 Qf (k12 v11) 105 [(0, jr t0), (1, ji v11), (2, ji v5)] [] 0 0 NC shC rfC I0 L0) ?_ (fun k12 hk12 => ?_)
        · intro v11
          try dsimp only
          refine J_iinc (pc := 105) hX (v := (v5 + (1 : Int32))) (lo' := [(2, ji (v5 + (1 : Int32))), (0, jr t0), (1, ji v11)]) 2 rfl (by rfl) (by decide) rfl dX7_kept_105 ?_
          refine J_goto (pc := 108) hX (tgt := 4) (by decide) dX7_kept_108 ?_
          refine J_sub [1, 2, 0] rfl ?_
          exact hg6 v11 (v5 + (1 : Int32))
        have lhg15 : ∀ mq : Nat, ∀ (v13 : Int32) (v14 : Int32), J Y Z 4 Qf (jfx (X7_kept_F1 t0 I0 v5 k12) (fun _ _ => none) mq v13 v14) 43 [(0, jr t0), (1, ji v13), (2, ji v5), (3, ji v14)] [] 0 0 NC shC rfC I0 L0 := by
          intro mq
          refine jfx_J (fun (_ : Nat) (g15 : Int32 → Int32 → Option (Int32)) => ∀ (v13 : Int32) (v14 : Int32), J Y Z 4 Qf (g15 v13 v14) 43 [(0, jr t0), (1, ji v13), (2, ji v5), (3, ji v14)] [] 0 0 NC shC rfC I0 L0) ?_ (fun _ g15 hg15 => ?_) mq
          · intro v13 v14
            exact J_none
          intro v13 v14
          unfold X7_kept_F1
          try dsimp only
          refine J_iload_n (pc := 43) hX 3 rfl dX7_kept_43 ?_
          refine J_iconst (pc := 44) hX (v := (1 : Int32)) (by decide) dX7_kept_44 ?_
          refine J_iadd (pc := 45) hX dX7_kept_45 ?_
          refine J_aload_n (pc := 46) hX 0 rfl dX7_kept_46 ?_
          refine g_X7_7 (pc := 47) hX ht0 dX7_kept_47 ?_
          refine J_sipush (pc := 50) hX (v := (688 : Int32)) (by decide) dX7_kept_50 ?_
          refine J_iald (pc := 53) hX (N := 784) (fs_7_0 t0 ht0) (by decide) dX7_kept_53 (fun h16 => ?_)
          refine J_icmp_ge (pc := 54) hX (tgt := 105) (by decide) dX7_kept_54 (fun h17 => ?_) (fun h17 => ?_)
          · refine J_sub [0, 1, 2] rfl ?_
            exact hk12 v13
          · refine J_aload_n (pc := 57) hX 0 rfl dX7_kept_57 ?_
            refine g_X7_7 (pc := 58) hX ht0 dX7_kept_58 ?_
            refine J_sipush (pc := 61) hX (v := (689 : Int32)) (by decide) dX7_kept_61 ?_
            refine J_iald (pc := 64) hX (N := 784) (fs_7_0 t0 ht0) (by decide) dX7_kept_64 (fun h18 => ?_)
            refine J_iconst (pc := 65) hX (v := (1 : Int32)) (by decide) dX7_kept_65 ?_
            refine J_icmp_ne (pc := 66) hX (tgt := 105) (by decide) dX7_kept_66 (fun h19 => ?_) (fun h19 => ?_)
            · refine J_sub [0, 1, 2] rfl ?_
              exact hk12 v13
            · refine J_iload_n (pc := 69) hX 1 rfl dX7_kept_69 ?_
              refine J_join (fun (k21 : Int32 → Option (Int32)) => ∀ (v20 : Int32), J Y Z 4 Qf (k21 v20) 98 [(0, jr t0), (2, ji v5), (3, ji v14)] [ji v20] 0 0 NC shC rfC I0 L0) ?_ (fun k21 hk21 => ?_)
              · intro v20
                try dsimp only
                refine J_istore_n (pc := 98) hX (lo' := [(1, ji v20), (0, jr t0), (2, ji v5), (3, ji v14)]) (by decide) rfl dX7_kept_98 ?_
                refine J_iinc (pc := 99) hX (v := (v14 + (1 : Int32))) (lo' := [(3, ji (v14 + (1 : Int32))), (1, ji v20), (0, jr t0), (2, ji v5)]) 3 rfl (by rfl) (by decide) rfl dX7_kept_99 ?_
                refine J_goto (pc := 102) hX (tgt := 43) (by decide) dX7_kept_102 ?_
                refine J_sub [2, 1, 3, 0] rfl ?_
                exact hg15 v20 (v14 + (1 : Int32))
              refine J_join (fun (k22 : Option (Int32)) => J Y Z 4 Qf (k22) 97 [(0, jr t0), (2, ji v5), (3, ji v14)] [] 0 0 NC shC rfC I0 L0) ?_ (fun k22 hk22 => ?_)
              · refine J_iconst (pc := 97) hX (v := (0 : Int32)) (by decide) dX7_kept_97 ?_
                exact hk21 (0 : Int32)
              refine J_if_eq (pc := 70) hX (tgt := 97) (by decide) dX7_kept_70 (fun h23 => ?_) (fun h23 => ?_)
              · refine J_sub [0, 2, 3] rfl ?_
                exact hk22
              · refine J_aload_n (pc := 73) hX 0 rfl dX7_kept_73 ?_
                refine J_iload_n (pc := 74) hX 3 rfl dX7_kept_74 ?_
                refine J_iload_n (pc := 75) hX 2 rfl dX7_kept_75 ?_
                refine J_call1 (fun y24 e25 => ?_)
                refine jrun_i (pc := 76) (jRunV hX s_X7_73 (ci := 7) (T := TX7) (N := 20) (As := [ji v14, ji v5]) (rest := []) rfl (by decide) (C_X7_found Y hz0 t0 ht0 v14 v5 I0 L0 y24 e25) ht0 rfl rfl ⟨by decide, by decide⟩ ⟨Nat.le_of_ble_eq_true rfl, Nat.le_of_ble_eq_true rfl⟩ (Nat.le_of_ble_eq_true rfl) dX7_kept_76) ?_
                refine J_join (fun (k26 : Option (Int32)) => J Y Z 4 Qf (k26) 93 [(0, jr t0), (2, ji v5), (3, ji v14)] [] 0 0 NC shC rfC I0 L0) ?_ (fun k26 hk26 => ?_)
                · refine J_iconst (pc := 93) hX (v := (1 : Int32)) (by decide) dX7_kept_93 ?_
                  refine J_goto (pc := 94) hX (tgt := 98) (by decide) dX7_kept_94 ?_
                  exact hk21 (1 : Int32)
                refine J_if_lt (pc := 79) hX (tgt := 93) (by decide) dX7_kept_79 (fun h27 => ?_) (fun h27 => ?_)
                · refine J_sub [0, 2, 3] rfl ?_
                  exact hk26
                · refine J_aload_n (pc := 82) hX 0 rfl dX7_kept_82 ?_
                  refine J_iload_n (pc := 83) hX 3 rfl dX7_kept_83 ?_
                  refine J_iconst (pc := 84) hX (v := (1 : Int32)) (by decide) dX7_kept_84 ?_
                  refine J_iadd (pc := 85) hX dX7_kept_85 ?_
                  refine J_iload_n (pc := 86) hX 2 rfl dX7_kept_86 ?_
                  refine J_call1 (fun y28 e29 => ?_)
                  refine jrun_i (pc := 87) (jRunV hX s_X7_73 (ci := 7) (T := TX7) (N := 20) (As := [ji (v14 + (1 : Int32)), ji v5]) (rest := []) rfl (by decide) (C_X7_found Y hz0 t0 ht0 (v14 + (1 : Int32)) v5 I0 L0 y28 e29) ht0 rfl rfl ⟨by decide, by decide⟩ ⟨Nat.le_of_ble_eq_true rfl, Nat.le_of_ble_eq_true rfl⟩ (Nat.le_of_ble_eq_true rfl) dX7_kept_87) ?_
                  refine J_if_lt (pc := 90) hX (tgt := 97) (by decide) dX7_kept_90 (fun h30 => ?_) (fun h30 => ?_)
                  · refine J_sub [0, 2, 3] rfl ?_
                    exact hk22
                  · refine J_sub [0, 2, 3] rfl ?_
                    exact hk26
        refine J_sub [1, 2, 3, 0] rfl ?_
        exact lhg15 1000 v9 (0 : Int32)
      refine J_icmp_ne (pc := 19) hX (tgt := 41) (by decide) dX7_kept_19 (fun h31 => ?_) (fun h31 => ?_)
      · exact hk10 v4
      · refine J_iload_n (pc := 22) hX 1 rfl dX7_kept_22 ?_
        refine J_join (fun (k33 : Int32 → Option (Int32)) => ∀ (v32 : Int32), J Y Z 4 Qf (k33 v32) 40 [(0, jr t0), (2, ji v5)] [ji v32] 0 0 NC shC rfC I0 L0) ?_ (fun k33 hk33 => ?_)
        · intro v32
          try dsimp only
          refine J_istore_n (pc := 40) hX (lo' := [(1, ji v32), (0, jr t0), (2, ji v5)]) (by decide) rfl dX7_kept_40 ?_
          refine J_sub [1, 0, 2] rfl ?_
          exact hk10 v32
        refine J_join (fun (k34 : Option (Int32)) => J Y Z 4 Qf (k34) 39 [(0, jr t0), (2, ji v5)] [] 0 0 NC shC rfC I0 L0) ?_ (fun k34 hk34 => ?_)
        · refine J_iconst (pc := 39) hX (v := (0 : Int32)) (by decide) dX7_kept_39 ?_
          exact hk33 (0 : Int32)
        refine J_if_eq (pc := 23) hX (tgt := 39) (by decide) dX7_kept_23 (fun h35 => ?_) (fun h35 => ?_)
        · refine J_sub [0, 2] rfl ?_
          exact hk34
        · refine J_aload_n (pc := 26) hX 0 rfl dX7_kept_26 ?_
          refine J_iload_n (pc := 27) hX 2 rfl dX7_kept_27 ?_
          refine J_call1 (fun y36 e37 => ?_)
          refine jrun_i (pc := 28) (jRunV hX s_X7_211 (ci := 7) (T := TX7) (N := 20) (As := [ji v5]) (rest := []) rfl (by decide) (C_X7_in Y hz0 t0 ht0 v5 I0 L0 y36 e37) ht0 rfl rfl ⟨by decide, by decide⟩ ⟨Nat.le_of_ble_eq_true rfl, Nat.le_of_ble_eq_true rfl⟩ (Nat.le_of_ble_eq_true rfl) dX7_kept_28) ?_
          refine J_iconst (pc := 31) hX (v := (2 : Int32)) (by decide) dX7_kept_31 ?_
          refine J_icmp_ge (pc := 32) hX (tgt := 39) (by decide) dX7_kept_32 (fun h38 => ?_) (fun h38 => ?_)
          · refine J_sub [0, 2] rfl ?_
            exact hk34
          · refine J_iconst (pc := 35) hX (v := (1 : Int32)) (by decide) dX7_kept_35 ?_
            refine J_goto (pc := 36) hX (tgt := 40) (by decide) dX7_kept_36 ?_
            refine J_sub [0, 2] rfl ?_
            exact hk33 (1 : Int32)
  refine J_sub [2, 1, 0] rfl ?_
  exact lhg6 1000 (1 : Int32) (0 : Int32)
theorem C_X7_kept (Y : jY) (hz0 : Y.zf = false) (t0 : Nat) (ht0 : shC t0 = 8) (I0 : jI) (L0 : jL) (r : Int32) (h : X7_kept t0 I0 = some r) : jMet Y yX7_kept cX7_kept 4 (some .int) 5 171 0 0 [jr t0] NC shC rfC I0 L0 (some (ji r)) NC shC rfC I0 L0 :=
  jmet_of _ _ h (fun Z r => jQ Y Z 0 0 (some (ji r)) NC shC rfC I0 L0) (fun _ => rfl) (by decide) (Nat.le_of_ble_eq_true rfl) (fun Z hX => W_X7_kept hz0 t0 ht0 I0 L0 hX (fun _ => rfl))
