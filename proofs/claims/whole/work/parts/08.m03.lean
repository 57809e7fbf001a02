def X6_modes_F1 (t0 : Nat) (p1 : Int32) (g9 : Int32 → Int32 → Int32 → jI → Option (Int32 × jI)) : Int32 → Int32 → Int32 → jI → Option (Int32 × jI) := fun (v5 : Int32) (v6 : Int32) (v7 : Int32) (I8 : jI) =>
if (2 : Int32) < v7 then (
some (v5, I8))
else (
(X6_thinkSweptOut t0 I8).bind (fun (I11 : jI) =>
jlet (jup I11 (rfC t0 1) 4 v7) (fun (I13 : jI) =>
jb2 (X6_costInThought t0 p1 I13) (fun (y14 : Int32) (I15 : jI) =>
jlet (fun (v17 : Int32) (v18 : Int32) =>
jlet (fun (v20 : Int32) =>
g9 v20 v18 (v7 + (1 : Int32)) I15) (fun (k21 : Int32 → Option (Int32 × jI)) =>
if y14 = v18 then (
jlet ((v17 ||| ((1 : Int32) <<< (v7 &&& 31)))) (fun (y23 : Int32) =>
k21 y23))
else (
k21 v17))) (fun (k19 : Int32 → Int32 → Option (Int32 × jI)) =>
jlet (
k19 (0 : Int32) y14) (fun (k24 : Option (Int32 × jI)) =>
if v5 = 0 then (
k24)
else (
if v6 ≤ y14 then (
k19 v5 v6)
else (
k24))))))))
def X6_modes (t0 : Nat) (p0 : Int32) (p1 : Int32) (I0 : jI) (L0 : jL) : Option (Int32 × jI) :=
jb2 (X6_hear t0 p0 p1 (1 : Int32) I0 L0) (fun (y1 : Int32) (I2 : jI) =>
if y1 = 0 then (
jfx (X6_modes_F1 t0 p1) (fun _ _ _ _ => none) 1000 (0 : Int32) (0 : Int32) (0 : Int32) I2)
else (
some (y1, I2)))
set_option maxRecDepth 20000 in
set_option maxHeartbeats 4000000 in
theorem W_X6_modes {Y : jY} {Z : jZ} {Qf : Int32 × jI → State → Prop} (hz0 : Y.zf = false) (t0 : Nat) (ht0 : shC t0 = 7) (p0 : Int32) (p1 : Int32) (I0 : jI) (L0 : jL) (hX : jOK Y Z RX6 cX6_modes 8 "modes" (some .int) 47 2231 0 0) (hQ : ∀ r : Int32 × jI, Qf r = jQ Y Z 0 0 (some (ji r.1)) NC shC rfC r.2 L0) : J Y Z 8 Qf (X6_modes t0 p0 p1 I0 L0) 0 [(0, jr t0), (1, ji p0), (2, ji p1)] [] 0 0 NC shC rfC I0 L0 := by
  unfold X6_modes
  refine J_aload_n (pc := 0) hX 0 rfl dX6_modes_0 ?_
  refine J_iload_n (pc := 1) hX 1 rfl dX6_modes_1 ?_
  refine J_iload_n (pc := 2) hX 2 rfl dX6_modes_2 ?_
  refine J_iconst (pc := 3) hX (v := (1 : Int32)) (by decide) dX6_modes_3 ?_
  refine J_call2 (fun y1 I2 e3 => ?_)
  refine jrun_i (pc := 4) (jRunV hX s_X6_240 (ci := 6) (T := TX6) (N := 8) (As := [ji p0, ji p1, ji (1 : Int32)]) (rest := []) rfl (by decide) (C_X6_hear Y hz0 t0 ht0 p0 p1 (1 : Int32) I0 L0 y1 I2 e3) ht0 rfl rfl ⟨by decide, by decide⟩ ⟨Nat.le_of_ble_eq_true rfl, Nat.le_of_ble_eq_true rfl⟩ (Nat.le_of_ble_eq_true rfl) dX6_modes_4) ?_
  refine J_istore_n (pc := 7) hX (lo' := [(3, ji y1), (0, jr t0), (1, ji p0), (2, ji p1)]) (by decide) rfl dX6_modes_7 ?_
  refine J_iload_n (pc := 8) hX 0 rfl dX6_modes_8 ?_
  refine J_if_eq (pc := 9) hX (tgt := 14) (by decide) dX6_modes_9 (fun h4 => ?_) (fun h4 => ?_)
  · refine J_iconst (pc := 14) hX (v := (0 : Int32)) (by decide) dX6_modes_14 ?_
    refine J_istore (pc := 15) hX (lo' := [(4, ji (0 : Int32)), (3, ji y1), (0, jr t0), (1, ji p0), (2, ji p1)]) (by decide) rfl dX6_modes_15 ?_
    refine J_iconst (pc := 17) hX (v := (0 : Int32)) (by decide) dX6_modes_17 ?_
    refine J_istore (pc := 18) hX (lo' := [(5, ji (0 : Int32)), (4, ji (0 : Int32)), (3, ji y1), (0, jr t0), (1, ji p0), (2, ji p1)]) (by decide) rfl dX6_modes_18 ?_
    refine J_iconst (pc := 20) hX (v := (0 : Int32)) (by decide) dX6_modes_20 ?_
    refine J_istore (pc := 21) hX (lo' := [(6, ji (0 : Int32)), (5, ji (0 : Int32)), (4, ji (0 : Int32)), (3, ji y1), (0, jr t0), (1, ji p0), (2, ji p1)]) (by decide) rfl dX6_modes_21 ?_
    have lhg9 : ∀ mq : Nat, ∀ (v5 : Int32) (v6 : Int32) (v7 : Int32) (I8 : jI), J Y Z 8 Qf (jfx (X6_modes_F1 t0 p1) (fun _ _ _ _ => none) mq v5 v6 v7 I8) 23 [(0, jr t0), (2, ji p1), (4, ji v5), (5, ji v6), (6, ji v7)] [] 0 0 NC shC rfC I8 L0 := by
      intro mq
      refine jfx_J (fun (_ : Nat) (g9 : Int32 → Int32 → Int32 → jI → Option (Int32 × jI)) => ∀ (v5 : Int32) (v6 : Int32) (v7 : Int32) (I8 : jI), J Y Z 8 Qf (g9 v5 v6 v7 I8) 23 [(0, jr t0), (2, ji p1), (4, ji v5), (5, ji v6), (6, ji v7)] [] 0 0 NC shC rfC I8 L0) ?_ (fun _ g9 hg9 => ?_) mq
      · intro v5 v6 v7 I8
        exact J_none
      intro v5 v6 v7 I8
      unfold X6_modes_F1
      try dsimp only
      refine J_iload (pc := 23) hX 4 rfl dX6_modes_23 ?_
      refine J_iconst (pc := 25) hX (v := (2 : Int32)) (by decide) dX6_modes_25 ?_
      refine J_icmp_gt (pc := 26) hX (tgt := 90) (by decide) dX6_modes_26 (fun h10 => ?_) (fun h10 => ?_)
      · refine J_iload (pc := 90) hX 2 rfl dX6_modes_90 ?_
        exact J_iret (pc := 92) hX (hQ _) dX6_modes_92
      · refine J_aload_n (pc := 29) hX 0 rfl dX6_modes_29 ?_
        refine J_call1 (fun I11 e12 => ?_)
        refine jrun_v (pc := 30) (jRunV hX s_X6_250 (ci := 6) (T := TX6) (N := 8) (As := []) (rest := []) rfl (by decide) (C_X6_thinkSweptOut Y hz0 t0 ht0 I8 L0 I11 e12) ht0 rfl rfl ⟨by decide, by decide⟩ ⟨Nat.le_of_ble_eq_true rfl, Nat.le_of_ble_eq_true rfl⟩ (Nat.le_of_ble_eq_true rfl) dX6_modes_30) ?_
        refine J_aload_n (pc := 33) hX 0 rfl dX6_modes_33 ?_
        refine g_X6_16 (pc := 34) hX ht0 dX6_modes_34 ?_
        refine J_iload (pc := 37) hX 4 rfl dX6_modes_37 ?_
        refine p_X6_175 (pc := 39) hX (fs_6_1 t0 ht0) dX6_modes_39 (fun I13 => ?_)
        refine J_aload_n (pc := 42) hX 0 rfl dX6_modes_42 ?_
        refine J_iload_n (pc := 43) hX 1 rfl dX6_modes_43 ?_
        refine J_call2 (fun y14 I15 e16 => ?_)
        refine jrun_i (pc := 44) (jRunV hX s_X6_253 (ci := 6) (T := TX6) (N := 8) (As := [ji p1]) (rest := []) rfl (by decide) (C_X6_costInThought Y hz0 t0 ht0 p1 I13 L0 y14 I15 e16) ht0 rfl rfl ⟨by decide, by decide⟩ ⟨Nat.le_of_ble_eq_true rfl, Nat.le_of_ble_eq_true rfl⟩ (Nat.le_of_ble_eq_true rfl) dX6_modes_44) ?_
        refine J_istore (pc := 47) hX (lo' := [(7, ji y14), (0, jr t0), (2, ji p1), (4, ji v5), (5, ji v6), (6, ji v7)]) (by decide) rfl dX6_modes_47 ?_
        refine J_iload (pc := 49) hX 3 rfl dX6_modes_49 ?_
        refine J_join (fun (k19 : Int32 → Int32 → Option (Int32 × jI)) => ∀ (v17 : Int32) (v18 : Int32), J Y Z 8 Qf (k19 v17 v18) 68 [(0, jr t0), (2, ji p1), (4, ji v17), (5, ji v18), (6, ji v7), (7, ji y14)] [] 0 0 NC shC rfC I15 L0) ?_ (fun k19 hk19 => ?_)
        · intro v17 v18
          try dsimp only
          refine J_iload (pc := 68) hX 5 rfl dX6_modes_68 ?_
          refine J_iload (pc := 70) hX 3 rfl dX6_modes_70 ?_
          refine J_join (fun (k21 : Int32 → Option (Int32 × jI)) => ∀ (v20 : Int32), J Y Z 8 Qf (k21 v20) 84 [(0, jr t0), (2, ji p1), (4, ji v20), (5, ji v18), (6, ji v7)] [] 0 0 NC shC rfC I15 L0) ?_ (fun k21 hk21 => ?_)
          · intro v20
            try dsimp only
            refine J_iinc (pc := 84) hX (v := (v7 + (1 : Int32))) (lo' := [(6, ji (v7 + (1 : Int32))), (0, jr t0), (2, ji p1), (4, ji v20), (5, ji v18)]) 4 rfl (by rfl) (by decide) rfl dX6_modes_84 ?_
            refine J_goto (pc := 87) hX (tgt := 23) (by decide) dX6_modes_87 ?_
            refine J_sub [1, 2, 3, 4, 0] rfl ?_
            exact hg9 v20 v18 (v7 + (1 : Int32)) I15
          refine J_icmp_ne (pc := 72) hX (tgt := 84) (by decide) dX6_modes_72 (fun h22 => ?_) (fun h22 => ?_)
          · refine J_sub [0, 1, 2, 3, 4] rfl ?_
            exact hk21 v17
          · refine J_iload (pc := 75) hX 2 rfl dX6_modes_75 ?_
            refine J_iconst (pc := 77) hX (v := (1 : Int32)) (by decide) dX6_modes_77 ?_
            refine J_iload (pc := 78) hX 4 rfl dX6_modes_78 ?_
            refine J_ishl (pc := 80) hX dX6_modes_80 ?_
            refine J_ior (pc := 81) hX dX6_modes_81 ?_
            refine J_leti (fun y23 => ?_)
            refine J_istore (pc := 82) hX (lo' := [(4, ji y23), (0, jr t0), (2, ji p1), (5, ji v18), (6, ji v7), (7, ji y14)]) (by decide) rfl dX6_modes_82 ?_
            refine J_sub [1, 2, 0, 3, 4] rfl ?_
            exact hk21 y23
        refine J_join (fun (k24 : Option (Int32 × jI)) => J Y Z 8 Qf (k24) 61 [(0, jr t0), (2, ji p1), (6, ji v7), (7, ji y14)] [] 0 0 NC shC rfC I15 L0) ?_ (fun k24 hk24 => ?_)
        · refine J_iconst (pc := 61) hX (v := (0 : Int32)) (by decide) dX6_modes_61 ?_
          refine J_istore (pc := 62) hX (lo' := [(4, ji (0 : Int32)), (0, jr t0), (2, ji p1), (6, ji v7), (7, ji y14)]) (by decide) rfl dX6_modes_62 ?_
          refine J_iload (pc := 64) hX 4 rfl dX6_modes_64 ?_
          refine J_istore (pc := 66) hX (lo' := [(5, ji y14), (4, ji (0 : Int32)), (0, jr t0), (2, ji p1), (6, ji v7), (7, ji y14)]) (by decide) rfl dX6_modes_66 ?_
          refine J_sub [2, 3, 1, 0, 4, 5] rfl ?_
          exact hk19 (0 : Int32) y14
        refine J_if_eq (pc := 51) hX (tgt := 61) (by decide) dX6_modes_51 (fun h25 => ?_) (fun h25 => ?_)
        · refine J_sub [1, 2, 5, 0] rfl ?_
          exact hk24
        · refine J_iload (pc := 54) hX 0 rfl dX6_modes_54 ?_
          refine J_iload (pc := 56) hX 4 rfl dX6_modes_56 ?_
          refine J_icmp_ge (pc := 58) hX (tgt := 68) (by decide) dX6_modes_58 (fun h26 => ?_) (fun h26 => ?_)
          · refine J_sub [1, 2, 3, 4, 5, 0] rfl ?_
            exact hk19 v5 v6
          · refine J_sub [1, 2, 5, 0] rfl ?_
            exact hk24
    refine J_sub [4, 6, 2, 1, 0] rfl ?_
    exact lhg9 1000 (0 : Int32) (0 : Int32) (0 : Int32) I2
  · refine J_iload_n (pc := 12) hX 0 rfl dX6_modes_12 ?_
    exact J_iret (pc := 13) hX (hQ _) dX6_modes_13
theorem C_X6_modes (Y : jY) (hz0 : Y.zf = false) (t0 : Nat) (ht0 : shC t0 = 7) (p0 : Int32) (p1 : Int32) (I0 : jI) (L0 : jL) (r : Int32) (I1 : jI) (h : X6_modes t0 p0 p1 I0 L0 = some (r, I1)) : jMet Y yX6_modes cX6_modes 8 (some .int) 47 2231 0 0 [jr t0, ji p0, ji p1] NC shC rfC I0 L0 (some (ji r)) NC shC rfC I1 L0 :=
  jmet_of _ _ h (fun Z r => jQ Y Z 0 0 (some (ji r.1)) NC shC rfC r.2 L0) (fun _ => rfl) (by decide) (Nat.le_of_ble_eq_true rfl) (fun Z hX => W_X6_modes hz0 t0 ht0 p0 p1 I0 L0 hX (fun _ => rfl))
def X6_toldLatest_F1 (t0 : Nat) (p2 : Int32) (I0 : jI) (v3 : Int32) (k11 : Int32 → Option (Int32)) (g14 : Int32 → Option (Int32)) : Int32 → Option (Int32) := fun (v13 : Int32) =>
if p2 ≤ v13 then (
k11 v13)
else (
(X6_toldAt t0 v13 I0).bind (fun (y16 : Int32) =>
if y16 = v3 then (
k11 v13)
else (
g14 (v13 + (1 : Int32)))))
def X6_toldLatest_F2 (t0 : Nat) (p0 : Int64) (p1 : Int32) (p2 : Int32) (I0 : jI) (g4 : Int32 → Int32 → Int32 → Option (Int32)) : Int32 → Int32 → Int32 → Option (Int32) := fun (v1 : Int32) (v2 : Int32) (v3 : Int32) =>
if (64 : Int32) ≤ v3 then (
some v1)
else (
jlet (fun (v6 : Int32) (v7 : Int32) =>
g4 v6 v7 (v3 + (1 : Int32))) (fun (k8 : Int32 → Int32 → Option (Int32)) =>
if (lg_cmp ((jlushr p0 v3) &&& (1 : Int64)) (1 : Int64)) = 0 then (
jlet (fun (v10 : Int32) =>
if v10 ≤ v2 then (
k8 v1 v2)
else (
k8 v3 v10)) (fun (k11 : Int32 → Option (Int32)) =>
jfx (X6_toldLatest_F1 t0 p2 I0 v3 k11) (fun _ => none) 1000 p1))
else (
k8 v1 v2)))
def X6_toldLatest (t0 : Nat) (p0 : Int64) (p1 : Int32) (p2 : Int32) (I0 : jI) : Option (Int32) :=
jfx (X6_toldLatest_F2 t0 p0 p1 p2 I0) (fun _ _ _ => none) 1000 (0 : Int32) (-1 : Int32) (0 : Int32)
set_option maxRecDepth 20000 in
set_option maxHeartbeats 4000000 in
theorem W_X6_toldLatest {Y : jY} {Z : jZ} {Qf : Int32 → State → Prop} (hz0 : Y.zf = false) (t0 : Nat) (ht0 : shC t0 = 7) (p0 : Int64) (p1 : Int32) (p2 : Int32) (I0 : jI) (L0 : jL) (hX : jOK Y Z RX6 cX6_toldLatest 9 "toldLatest" (some .int) 3 123 0 0) (hQ : ∀ r : Int32, Qf r = jQ Y Z 0 0 (some (ji r)) NC shC rfC I0 L0) : J Y Z 9 Qf (X6_toldLatest t0 p0 p1 p2 I0) 0 [(0, jr t0), (1, jl p0), (3, ji p1), (4, ji p2)] [] 0 0 NC shC rfC I0 L0 := by
  unfold X6_toldLatest
  refine J_iconst (pc := 0) hX (v := (0 : Int32)) (by decide) dX6_toldLatest_0 ?_
  refine J_istore (pc := 1) hX (lo' := [(5, ji (0 : Int32)), (0, jr t0), (1, jl p0), (3, ji p1), (4, ji p2)]) (by decide) rfl dX6_toldLatest_1 ?_
  refine J_iconst (pc := 3) hX (v := (-1 : Int32)) (by decide) dX6_toldLatest_3 ?_
  refine J_istore (pc := 4) hX (lo' := [(6, ji (-1 : Int32)), (5, ji (0 : Int32)), (0, jr t0), (1, jl p0), (3, ji p1), (4, ji p2)]) (by decide) rfl dX6_toldLatest_4 ?_
  refine J_iconst (pc := 6) hX (v := (0 : Int32)) (by decide) dX6_toldLatest_6 ?_
  refine J_istore (pc := 7) hX (lo' := [(7, ji (0 : Int32)), (6, ji (-1 : Int32)), (5, ji (0 : Int32)), (0, jr t0), (1, jl p0), (3, ji p1), (4, ji p2)]) (by decide) rfl dX6_toldLatest_7 ?_
  have lhg4 : ∀ mq : Nat, ∀ (v1 : Int32) (v2 : Int32) (v3 : Int32), J Y Z 9 Qf (jfx (X6_toldLatest_F2 t0 p0 p1 p2 I0) (fun _ _ _ => none) mq v1 v2 v3) 9 [(0, jr t0), (1, jl p0), (3, ji p1), (4, ji p2), (5, ji v1), (6, ji v2), (7, ji v3)] [] 0 0 NC shC rfC I0 L0 := by
    intro mq
    refine jfx_J (fun (_ : Nat) (g4 : Int32 → Int32 → Int32 → Option (Int32)) => ∀ (v1 : Int32) (v2 : Int32) (v3 : Int32), J Y Z 9 Qf (g4 v1 v2 v3) 9 [(0, jr t0), (1, jl p0), (3, ji p1), (4, ji p2), (5, ji v1), (6, ji v2), (7, ji v3)] [] 0 0 NC shC rfC I0 L0) ?_ (fun _ g4 hg4 => ?_) mq
    · intro v1 v2 v3
      exact J_none
    intro v1 v2 v3
    unfold X6_toldLatest_F2
    try dsimp only
    refine J_iload (pc := 9) hX 6 rfl dX6_toldLatest_9 ?_
    refine J_bipush (pc := 11) hX (v := (64 : Int32)) (by decide) dX6_toldLatest_11 ?_
    refine J_icmp_ge (pc := 13) hX (tgt := 75) (by decide) dX6_toldLatest_13 (fun h5 => ?_) (fun h5 => ?_)
    · refine J_iload (pc := 75) hX 4 rfl dX6_toldLatest_75 ?_
      exact J_iret (pc := 77) hX (hQ _) dX6_toldLatest_77
    · refine J_lload_n (pc := 16) hX 1 rfl dX6_toldLatest_16 ?_
      refine J_iload (pc := 17) hX 6 rfl dX6_toldLatest_17 ?_
      refine J_lushr (pc := 19) hX dX6_toldLatest_19 ?_
      refine J_lconst (pc := 20) hX (v := (1 : Int64)) (by decide) dX6_toldLatest_20 ?_
      refine J_land (pc := 21) hX dX6_toldLatest_21 ?_
      refine J_lconst (pc := 22) hX (v := (1 : Int64)) (by decide) dX6_toldLatest_22 ?_
      refine J_lcmp (pc := 23) hX dX6_toldLatest_23 ?_
      refine J_join (fun (k8 : Int32 → Int32 → Option (Int32)) => ∀ (v6 : Int32) (v7 : Int32), J Y Z 9 Qf (k8 v6 v7) 69 [(0, jr t0), (1, jl p0), (3, ji p1), (4, ji p2), (5, ji v6), (6, ji v7), (7, ji v3)] [] 0 0 NC shC rfC I0 L0) ?_ (fun k8 hk8 => ?_)
      · intro v6 v7
        try dsimp only
        refine J_iinc (pc := 69) hX (v := (v3 + (1 : Int32))) (lo' := [(7, ji (v3 + (1 : Int32))), (0, jr t0), (1, jl p0), (3, ji p1), (4, ji p2), (5, ji v6), (6, ji v7)]) 6 rfl (by rfl) (by decide) rfl dX6_toldLatest_69 ?_
        refine J_goto (pc := 72) hX (tgt := 9) (by decide) dX6_toldLatest_72 ?_
        refine J_sub [1, 2, 3, 4, 5, 6, 0] rfl ?_
        exact hg4 v6 v7 (v3 + (1 : Int32))
      refine J_if_ne (pc := 24) hX (tgt := 69) (by decide) dX6_toldLatest_24 (fun h9 => ?_) (fun h9 => ?_)
      · exact hk8 v1 v2
      · refine J_iload_n (pc := 27) hX 2 rfl dX6_toldLatest_27 ?_
        refine J_istore (pc := 28) hX (lo' := [(8, ji p1), (0, jr t0), (1, jl p0), (3, ji p1), (4, ji p2), (5, ji v1), (6, ji v2), (7, ji v3)]) (by decide) rfl dX6_toldLatest_28 ?_
        refine J_join (fun (k11 : Int32 → Option (Int32)) => ∀ (v10 : Int32), J Y Z 9 Qf (k11 v10) 54 [(0, jr t0), (1, jl p0), (3, ji p1), (4, ji p2), (5, ji v1), (6, ji v2), (7, ji v3), (8, ji v10)] [] 0 0 NC shC rfC I0 L0) ?_ (fun k11 hk11 => ?_)
        · intro v10
          try dsimp only
          refine J_iload (pc := 54) hX 7 rfl dX6_toldLatest_54 ?_
          refine J_iload (pc := 56) hX 5 rfl dX6_toldLatest_56 ?_
          refine J_icmp_le (pc := 58) hX (tgt := 69) (by decide) dX6_toldLatest_58 (fun h12 => ?_) (fun h12 => ?_)
          · refine J_sub [0, 1, 2, 3, 4, 5, 6] rfl ?_
            exact hk8 v1 v2
          · refine J_iload (pc := 61) hX 6 rfl dX6_toldLatest_61 ?_
            refine J_istore (pc := 63) hX (lo' := [(5, ji v3), (0, jr t0), (1, jl p0), (3, ji p1), (4, ji p2), (6, ji v2), (7, ji v3), (8, ji v10)]) (by decide) rfl dX6_toldLatest_63 ?_
            refine J_iload (pc := 65) hX 7 rfl dX6_toldLatest_65 ?_
            refine J_istore (pc := 67) hX (lo' := [(6, ji v10), (5, ji v3), (0, jr t0), (1, jl p0), (3, ji p1), (4, ji p2), (7, ji v3), (8, ji v10)]) (by decide) rfl dX6_toldLatest_67 ?_
            refine J_sub [2, 3, 4, 5, 1, 0, 6] rfl ?_
            exact hk8 v3 v10
        have lhg14 : ∀ mq : Nat, ∀ (v13 : Int32), J Y Z 9 Qf (jfx (X6_toldLatest_F1 t0 p2 I0 v3 k11) (fun _ => none) mq v13) 30 [(0, jr t0), (1, jl p0), (3, ji p1), (4, ji p2), (5, ji v1), (6, ji v2), (7, ji v3), (8, ji v13)] [] 0 0 NC shC rfC I0 L0 := by
          intro mq
          refine jfx_J (fun (_ : Nat) (g14 : Int32 → Option (Int32)) => ∀ (v13 : Int32), J Y Z 9 Qf (g14 v13) 30 [(0, jr t0), (1, jl p0), (3, ji p1), (4, ji p2), (5, ji v1), (6, ji v2), (7, ji v3), (8, ji v13)] [] 0 0 NC shC rfC I0 L0) ?_ (fun _ g14 hg14 => ?_) mq
          · intro v13
            exact J_none
          intro v13
          unfold X6_toldLatest_F1
          try dsimp only
          refine J_iload (pc := 30) hX 7 rfl dX6_toldLatest_30 ?_
          refine J_iload (pc := 32) hX 3 rfl dX6_toldLatest_32 ?_
          refine J_icmp_ge (pc := 34) hX (tgt := 54) (by decide) dX6_toldLatest_34 (fun h15 => ?_) (fun h15 => ?_)
          · exact hk11 v13
          · refine J_aload_n (pc := 37) hX 0 rfl dX6_toldLatest_37 ?_
            refine J_iload (pc := 38) hX 7 rfl dX6_toldLatest_38 ?_
            refine J_call1 (fun y16 e17 => ?_)
            refine jrun_i (pc := 40) (jRunV hX s_X6_244 (ci := 6) (T := TX6) (N := 8) (As := [ji v13]) (rest := []) rfl (by decide) (C_X6_toldAt Y hz0 t0 ht0 v13 I0 L0 y16 e17) ht0 rfl rfl ⟨by decide, by decide⟩ ⟨Nat.le_of_ble_eq_true rfl, Nat.le_of_ble_eq_true rfl⟩ (Nat.le_of_ble_eq_true rfl) dX6_toldLatest_40) ?_
            refine J_iload (pc := 43) hX 6 rfl dX6_toldLatest_43 ?_
            refine J_icmp_eq (pc := 45) hX (tgt := 54) (by decide) dX6_toldLatest_45 (fun h18 => ?_) (fun h18 => ?_)
            · exact hk11 v13
            · refine J_iinc (pc := 48) hX (v := (v13 + (1 : Int32))) (lo' := [(8, ji (v13 + (1 : Int32))), (0, jr t0), (1, jl p0), (3, ji p1), (4, ji p2), (5, ji v1), (6, ji v2), (7, ji v3)]) 7 rfl (by rfl) (by decide) rfl dX6_toldLatest_48 ?_
              refine J_goto (pc := 51) hX (tgt := 30) (by decide) dX6_toldLatest_51 ?_
              refine J_sub [1, 2, 3, 4, 5, 6, 7, 0] rfl ?_
              exact hg14 (v13 + (1 : Int32))
        refine J_sub [1, 2, 3, 4, 5, 6, 7, 0] rfl ?_
        exact lhg14 1000 p1
  refine J_sub [3, 4, 5, 6, 2, 1, 0] rfl ?_
  exact lhg4 1000 (0 : Int32) (-1 : Int32) (0 : Int32)
theorem C_X6_toldLatest (Y : jY) (hz0 : Y.zf = false) (t0 : Nat) (ht0 : shC t0 = 7) (p0 : Int64) (p1 : Int32) (p2 : Int32) (I0 : jI) (L0 : jL) (r : Int32) (h : X6_toldLatest t0 p0 p1 p2 I0 = some r) : jMet Y yX6_toldLatest cX6_toldLatest 9 (some .int) 3 123 0 0 [jr t0, jl p0, ji p1, ji p2] NC shC rfC I0 L0 (some (ji r)) NC shC rfC I0 L0 :=
  jmet_of _ _ h (fun Z r => jQ Y Z 0 0 (some (ji r)) NC shC rfC I0 L0) (fun _ => rfl) (by decide) (Nat.le_of_ble_eq_true rfl) (fun Z hX => W_X6_toldLatest hz0 t0 ht0 p0 p1 p2 I0 L0 hX (fun _ => rfl))
def X6_hitsByForesight_F1 (t0 : Nat) (p0 : Int32) (p1 : Int32) (I0 : jI) (g4 : Int64 → Int32 → Int32 → Option (Int32)) : Int64 → Int32 → Int32 → Option (Int32) := fun (v1 : Int64) (v2 : Int32) (v3 : Int32) =>
if p0 ≤ v3 then (
some v2)
else (
(X6_toldAt t0 v3 I0).bind (fun (y6 : Int32) =>
jlet ((jlshl (1 : Int64) y6)) (fun (y8 : Int64) =>
jlet (fun (v9 : Int64) (v10 : Int32) =>
g4 v9 v10 (v3 + (1 : Int32))) (fun (k11 : Int64 → Int32 → Option (Int32)) =>
if (lg_cmp (v1 &&& y8) (0 : Int64)) = 0 then (
(J13_bitCount_95d88 v1).bind (fun (y13 : Int32) =>
jlet (fun (v15 : Int64) =>
jlet ((v15 ||| y8)) (fun (y17 : Int64) =>
k11 y17 v2)) (fun (k16 : Int64 → Option (Int32)) =>
if y13 < p1 then (
k16 v1)
else (
(X6_toldLatest t0 v1 (v3 + (1 : Int32)) p0 I0).bind (fun (y19 : Int32) =>
jlet ((v1 &&& ((jlshl (1 : Int64) y19) ^^^ (-1 : Int64)))) (fun (y21 : Int64) =>
k16 y21))))))
else (
k11 v1 (v2 + (1 : Int32)))))))
def X6_hitsByForesight (t0 : Nat) (p0 : Int32) (p1 : Int32) (I0 : jI) : Option (Int32) :=
jfx (X6_hitsByForesight_F1 t0 p0 p1 I0) (fun _ _ _ => none) 1000 (0 : Int64) (0 : Int32) (0 : Int32)
set_option maxRecDepth 20000 in
set_option maxHeartbeats 4000000 in
theorem W_X6_hitsByForesight {Y : jY} {Z : jZ} {Qf : Int32 → State → Prop} (hz0 : Y.zf = false) (t0 : Nat) (ht0 : shC t0 = 7) (p0 : Int32) (p1 : Int32) (I0 : jI) (L0 : jL) (hX : jOK Y Z RX6 cX6_hitsByForesight 9 "hitsByForesight" (some .int) 4 151 0 0) (hQ : ∀ r : Int32, Qf r = jQ Y Z 0 0 (some (ji r)) NC shC rfC I0 L0) : J Y Z 9 Qf (X6_hitsByForesight t0 p0 p1 I0) 0 [(0, jr t0), (1, ji p0), (2, ji p1)] [] 0 0 NC shC rfC I0 L0 := by
  unfold X6_hitsByForesight
  refine J_lconst (pc := 0) hX (v := (0 : Int64)) (by decide) dX6_hitsByForesight_0 ?_
  refine J_lstore_n (pc := 1) hX (lo' := [(3, jl (0 : Int64)), (0, jr t0), (1, ji p0), (2, ji p1)]) (by decide) rfl dX6_hitsByForesight_1 ?_
  refine J_iconst (pc := 2) hX (v := (0 : Int32)) (by decide) dX6_hitsByForesight_2 ?_
  refine J_istore (pc := 3) hX (lo' := [(5, ji (0 : Int32)), (3, jl (0 : Int64)), (0, jr t0), (1, ji p0), (2, ji p1)]) (by decide) rfl dX6_hitsByForesight_3 ?_
  refine J_iconst (pc := 5) hX (v := (0 : Int32)) (by decide) dX6_hitsByForesight_5 ?_
  refine J_istore (pc := 6) hX (lo' := [(6, ji (0 : Int32)), (5, ji (0 : Int32)), (3, jl (0 : Int64)), (0, jr t0), (1, ji p0), (2, ji p1)]) (by decide) rfl dX6_hitsByForesight_6 ?_
  have lhg4 : ∀ mq : Nat, ∀ (v1 : Int64) (v2 : Int32) (v3 : Int32), J Y Z 9 Qf (jfx (X6_hitsByForesight_F1 t0 p0 p1 I0) (fun _ _ _ => none) mq v1 v2 v3) 8 [(0, jr t0), (1, ji p0), (2, ji p1), (3, jl v1), (5, ji v2), (6, ji v3)] [] 0 0 NC shC rfC I0 L0 := by
    intro mq
    refine jfx_J (fun (_ : Nat) (g4 : Int64 → Int32 → Int32 → Option (Int32)) => ∀ (v1 : Int64) (v2 : Int32) (v3 : Int32), J Y Z 9 Qf (g4 v1 v2 v3) 8 [(0, jr t0), (1, ji p0), (2, ji p1), (3, jl v1), (5, ji v2), (6, ji v3)] [] 0 0 NC shC rfC I0 L0) ?_ (fun _ g4 hg4 => ?_) mq
    · intro v1 v2 v3
      exact J_none
    intro v1 v2 v3
    unfold X6_hitsByForesight_F1
    try dsimp only
    refine J_iload (pc := 8) hX 5 rfl dX6_hitsByForesight_8 ?_
    refine J_iload_n (pc := 10) hX 1 rfl dX6_hitsByForesight_10 ?_
    refine J_icmp_ge (pc := 11) hX (tgt := 77) (by decide) dX6_hitsByForesight_11 (fun h5 => ?_) (fun h5 => ?_)
    · refine J_iload (pc := 77) hX 4 rfl dX6_hitsByForesight_77 ?_
      exact J_iret (pc := 79) hX (hQ _) dX6_hitsByForesight_79
    · refine J_lconst (pc := 14) hX (v := (1 : Int64)) (by decide) dX6_hitsByForesight_14 ?_
      refine J_aload_n (pc := 15) hX 0 rfl dX6_hitsByForesight_15 ?_
      refine J_iload (pc := 16) hX 5 rfl dX6_hitsByForesight_16 ?_
      refine J_call1 (fun y6 e7 => ?_)
      refine jrun_i (pc := 18) (jRunV hX s_X6_244 (ci := 6) (T := TX6) (N := 8) (As := [ji v3]) (rest := [jl (1 : Int64)]) rfl (by decide) (C_X6_toldAt Y hz0 t0 ht0 v3 I0 L0 y6 e7) ht0 rfl rfl ⟨by decide, by decide⟩ ⟨Nat.le_of_ble_eq_true rfl, Nat.le_of_ble_eq_true rfl⟩ (Nat.le_of_ble_eq_true rfl) dX6_hitsByForesight_18) ?_
      refine J_lshl (pc := 21) hX dX6_hitsByForesight_21 ?_
      refine J_letl (fun y8 => ?_)
      refine J_lstore (pc := 22) hX (lo' := [(7, jl y8), (0, jr t0), (1, ji p0), (2, ji p1), (3, jl v1), (5, ji v2), (6, ji v3)]) (by decide) rfl dX6_hitsByForesight_22 ?_
      refine J_lload_n (pc := 24) hX 4 rfl dX6_hitsByForesight_24 ?_
      refine J_lload (pc := 25) hX 0 rfl dX6_hitsByForesight_25 ?_
      refine J_land (pc := 27) hX dX6_hitsByForesight_27 ?_
      refine J_lconst (pc := 28) hX (v := (0 : Int64)) (by decide) dX6_hitsByForesight_28 ?_
      refine J_lcmp (pc := 29) hX dX6_hitsByForesight_29 ?_
      refine J_join (fun (k11 : Int64 → Int32 → Option (Int32)) => ∀ (v9 : Int64) (v10 : Int32), J Y Z 9 Qf (k11 v9 v10) 71 [(0, jr t0), (1, ji p0), (2, ji p1), (3, jl v9), (5, ji v10), (6, ji v3)] [] 0 0 NC shC rfC I0 L0) ?_ (fun k11 hk11 => ?_)
      · intro v9 v10
        try dsimp only
        refine J_iinc (pc := 71) hX (v := (v3 + (1 : Int32))) (lo' := [(6, ji (v3 + (1 : Int32))), (0, jr t0), (1, ji p0), (2, ji p1), (3, jl v9), (5, ji v10)]) 5 rfl (by rfl) (by decide) rfl dX6_hitsByForesight_71 ?_
        refine J_goto (pc := 74) hX (tgt := 8) (by decide) dX6_hitsByForesight_74 ?_
        refine J_sub [1, 2, 3, 4, 5, 0] rfl ?_
        exact hg4 v9 v10 (v3 + (1 : Int32))
      refine J_if_eq (pc := 30) hX (tgt := 39) (by decide) dX6_hitsByForesight_30 (fun h12 => ?_) (fun h12 => ?_)
      · refine J_lload_n (pc := 39) hX 4 rfl dX6_hitsByForesight_39 ?_
        refine J_call1 (fun y13 e14 => ?_)
        refine jrun_i (pc := 40) (jRunS hX s_X6_193 (As := [jl v1]) (rest := []) (C_J13_bitCount_95d88 Y hz0 v1 I0 L0 y13 e14) rfl rfl ⟨by decide, by decide⟩ ⟨Nat.le_of_ble_eq_true rfl, Nat.le_of_ble_eq_true rfl⟩ (Nat.le_of_ble_eq_true rfl) dX6_hitsByForesight_40) ?_
        refine J_iload_n (pc := 43) hX 3 rfl dX6_hitsByForesight_43 ?_
        refine J_join (fun (k16 : Int64 → Option (Int32)) => ∀ (v15 : Int64), J Y Z 9 Qf (k16 v15) 66 [(0, jr t0), (1, ji p0), (2, ji p1), (3, jl v15), (5, ji v2), (6, ji v3), (7, jl y8)] [] 0 0 NC shC rfC I0 L0) ?_ (fun k16 hk16 => ?_)
        · intro v15
          try dsimp only
          refine J_lload_n (pc := 66) hX 3 rfl dX6_hitsByForesight_66 ?_
          refine J_lload (pc := 67) hX 6 rfl dX6_hitsByForesight_67 ?_
          refine J_lor (pc := 69) hX dX6_hitsByForesight_69 ?_
          refine J_letl (fun y17 => ?_)
          refine J_lstore_n (pc := 70) hX (lo' := [(3, jl y17), (0, jr t0), (1, ji p0), (2, ji p1), (5, ji v2), (6, ji v3), (7, jl y8)]) (by decide) rfl dX6_hitsByForesight_70 ?_
          refine J_sub [1, 2, 3, 0, 4, 5] rfl ?_
          exact hk11 y17 v2
        refine J_icmp_lt (pc := 44) hX (tgt := 66) (by decide) dX6_hitsByForesight_44 (fun h18 => ?_) (fun h18 => ?_)
        · refine J_sub [1, 2, 3, 4, 5, 6, 0] rfl ?_
          exact hk16 v1
        · refine J_lload_n (pc := 47) hX 4 rfl dX6_hitsByForesight_47 ?_
          refine J_lconst (pc := 48) hX (v := (1 : Int64)) (by decide) dX6_hitsByForesight_48 ?_
          refine J_aload_n (pc := 49) hX 1 rfl dX6_hitsByForesight_49 ?_
          refine J_lload_n (pc := 50) hX 4 rfl dX6_hitsByForesight_50 ?_
          refine J_iload (pc := 51) hX 6 rfl dX6_hitsByForesight_51 ?_
          refine J_iconst (pc := 53) hX (v := (1 : Int32)) (by decide) dX6_hitsByForesight_53 ?_
          refine J_iadd (pc := 54) hX dX6_hitsByForesight_54 ?_
          refine J_iload_n (pc := 55) hX 2 rfl dX6_hitsByForesight_55 ?_
          refine J_call1 (fun y19 e20 => ?_)
          refine jrun_i (pc := 56) (jRunV hX s_X6_337 (ci := 6) (T := TX6) (N := 8) (As := [jl v1, ji (v3 + (1 : Int32)), ji p0]) (rest := [jl (1 : Int64), jl v1]) rfl (by decide) (C_X6_toldLatest Y hz0 t0 ht0 v1 (v3 + (1 : Int32)) p0 I0 L0 y19 e20) ht0 rfl rfl ⟨by decide, by decide⟩ ⟨Nat.le_of_ble_eq_true rfl, Nat.le_of_ble_eq_true rfl⟩ (Nat.le_of_ble_eq_true rfl) dX6_hitsByForesight_56) ?_
          refine J_lshl (pc := 59) hX dX6_hitsByForesight_59 ?_
          refine J_ldc2 (pc := 60) hX q_X6_238 dX6_hitsByForesight_60 ?_
          refine J_lxor (pc := 63) hX dX6_hitsByForesight_63 ?_
          refine J_land (pc := 64) hX dX6_hitsByForesight_64 ?_
          refine J_letl (fun y21 => ?_)
          refine J_lstore_n (pc := 65) hX (lo' := [(3, jl y21), (7, jl y8), (0, jr t0), (1, ji p0), (2, ji p1), (5, ji v2), (6, ji v3)]) (by decide) rfl dX6_hitsByForesight_65 ?_
          refine J_sub [2, 3, 4, 0, 5, 6, 1] rfl ?_
          exact hk16 y21
      · refine J_iinc (pc := 33) hX (v := (v2 + (1 : Int32))) (lo' := [(5, ji (v2 + (1 : Int32))), (7, jl y8), (0, jr t0), (1, ji p0), (2, ji p1), (3, jl v1), (6, ji v3)]) 5 rfl (by rfl) (by decide) rfl dX6_hitsByForesight_33 ?_
        refine J_goto (pc := 36) hX (tgt := 71) (by decide) dX6_hitsByForesight_36 ?_
        refine J_sub [2, 3, 4, 5, 0, 6] rfl ?_
        exact hk11 v1 (v2 + (1 : Int32))
  refine J_sub [3, 4, 5, 2, 1, 0] rfl ?_
  exact lhg4 1000 (0 : Int64) (0 : Int32) (0 : Int32)
theorem C_X6_hitsByForesight (Y : jY) (hz0 : Y.zf = false) (t0 : Nat) (ht0 : shC t0 = 7) (p0 : Int32) (p1 : Int32) (I0 : jI) (L0 : jL) (r : Int32) (h : X6_hitsByForesight t0 p0 p1 I0 = some r) : jMet Y yX6_hitsByForesight cX6_hitsByForesight 9 (some .int) 4 151 0 0 [jr t0, ji p0, ji p1] NC shC rfC I0 L0 (some (ji r)) NC shC rfC I0 L0 :=
  jmet_of _ _ h (fun Z r => jQ Y Z 0 0 (some (ji r)) NC shC rfC I0 L0) (fun _ => rfl) (by decide) (Nat.le_of_ble_eq_true rfl) (fun Z hX => W_X6_hitsByForesight hz0 t0 ht0 p0 p1 I0 L0 hX (fun _ => rfl))
def X6_foresight (t0 : Nat) (p0 : Int32) (p1 : Int32) (p2 : Int32) (I0 : jI) (L0 : jL) : Option (Int32 × jI) :=
(X6_isWithin p2 (1 : Int32) (16 : Int32)).bind (fun (y1 : Int32) =>
jb2 (X6_hear t0 p0 p1 y1 I0 L0) (fun (y3 : Int32) (I4 : jI) =>
if y3 = 0 then (
(X6_hitsByForesight t0 p1 p2 I4).bind (fun (y7 : Int32) =>
some (y7, I4)))
else (
some (y3, I4))))
set_option maxRecDepth 20000 in
set_option maxHeartbeats 4000000 in
theorem W_X6_foresight {Y : jY} {Z : jZ} {Qf : Int32 × jI → State → Prop} (hz0 : Y.zf = false) (t0 : Nat) (ht0 : shC t0 = 7) (p0 : Int32) (p1 : Int32) (p2 : Int32) (I0 : jI) (L0 : jL) (hX : jOK Y Z RX6 cX6_foresight 5 "foresight" (some .int) 6 196 0 0) (hQ : ∀ r : Int32 × jI, Qf r = jQ Y Z 0 0 (some (ji r.1)) NC shC rfC r.2 L0) : J Y Z 5 Qf (X6_foresight t0 p0 p1 p2 I0 L0) 0 [(0, jr t0), (1, ji p0), (2, ji p1), (3, ji p2)] [] 0 0 NC shC rfC I0 L0 := by
  unfold X6_foresight
  refine J_aload_n (pc := 0) hX 0 rfl dX6_foresight_0 ?_
  refine J_iload_n (pc := 1) hX 1 rfl dX6_foresight_1 ?_
  refine J_iload_n (pc := 2) hX 2 rfl dX6_foresight_2 ?_
  refine J_iload_n (pc := 3) hX 3 rfl dX6_foresight_3 ?_
  refine J_iconst (pc := 4) hX (v := (1 : Int32)) (by decide) dX6_foresight_4 ?_
  refine J_bipush (pc := 5) hX (v := (16 : Int32)) (by decide) dX6_foresight_5 ?_
  refine J_call1 (fun y1 e2 => ?_)
  refine jrun_i (pc := 7) (jRunS hX s_X6_47 (As := [ji p2, ji (1 : Int32), ji (16 : Int32)]) (rest := [ji p1, ji p0, jr t0]) (C_X6_isWithin Y hz0 p2 (1 : Int32) (16 : Int32) I0 L0 y1 e2) rfl rfl ⟨by decide, by decide⟩ ⟨Nat.le_of_ble_eq_true rfl, Nat.le_of_ble_eq_true rfl⟩ (Nat.le_of_ble_eq_true rfl) dX6_foresight_7) ?_
  refine J_call2 (fun y3 I4 e5 => ?_)
  refine jrun_i (pc := 10) (jRunV hX s_X6_240 (ci := 6) (T := TX6) (N := 8) (As := [ji p0, ji p1, ji y1]) (rest := []) rfl (by decide) (C_X6_hear Y hz0 t0 ht0 p0 p1 y1 I0 L0 y3 I4 e5) ht0 rfl rfl ⟨by decide, by decide⟩ ⟨Nat.le_of_ble_eq_true rfl, Nat.le_of_ble_eq_true rfl⟩ (Nat.le_of_ble_eq_true rfl) dX6_foresight_10) ?_
  refine J_istore (pc := 13) hX (lo' := [(4, ji y3), (0, jr t0), (1, ji p0), (2, ji p1), (3, ji p2)]) (by decide) rfl dX6_foresight_13 ?_
  refine J_iload (pc := 15) hX 0 rfl dX6_foresight_15 ?_
  refine J_if_eq (pc := 17) hX (tgt := 23) (by decide) dX6_foresight_17 (fun h6 => ?_) (fun h6 => ?_)
  · refine J_aload_n (pc := 23) hX 1 rfl dX6_foresight_23 ?_
    refine J_iload_n (pc := 24) hX 3 rfl dX6_foresight_24 ?_
    refine J_iload_n (pc := 25) hX 4 rfl dX6_foresight_25 ?_
    refine J_call1 (fun y7 e8 => ?_)
    refine jrun_i (pc := 26) (jRunV hX s_X6_256 (ci := 6) (T := TX6) (N := 8) (As := [ji p1, ji p2]) (rest := []) rfl (by decide) (C_X6_hitsByForesight Y hz0 t0 ht0 p1 p2 I4 L0 y7 e8) ht0 rfl rfl ⟨by decide, by decide⟩ ⟨Nat.le_of_ble_eq_true rfl, Nat.le_of_ble_eq_true rfl⟩ (Nat.le_of_ble_eq_true rfl) dX6_foresight_26) ?_
    exact J_iret (pc := 29) hX (hQ _) dX6_foresight_29
  · refine J_iload (pc := 20) hX 0 rfl dX6_foresight_20 ?_
    exact J_iret (pc := 22) hX (hQ _) dX6_foresight_22
theorem C_X6_foresight (Y : jY) (hz0 : Y.zf = false) (t0 : Nat) (ht0 : shC t0 = 7) (p0 : Int32) (p1 : Int32) (p2 : Int32) (I0 : jI) (L0 : jL) (r : Int32) (I1 : jI) (h : X6_foresight t0 p0 p1 p2 I0 L0 = some (r, I1)) : jMet Y yX6_foresight cX6_foresight 5 (some .int) 6 196 0 0 [jr t0, ji p0, ji p1, ji p2] NC shC rfC I0 L0 (some (ji r)) NC shC rfC I1 L0 :=
  jmet_of _ _ h (fun Z r => jQ Y Z 0 0 (some (ji r.1)) NC shC rfC r.2 L0) (fun _ => rfl) (by decide) (Nat.le_of_ble_eq_true rfl) (fun Z hX => W_X6_foresight hz0 t0 ht0 p0 p1 p2 I0 L0 hX (fun _ => rfl))
def X6_pagesTold_F1 (t0 : Nat) (p1 : Int32) (I0 : jI) (g3 : Int64 → Int32 → Option (Int64)) : Int64 → Int32 → Option (Int64) := fun (v1 : Int64) (v2 : Int32) =>
if p1 ≤ v2 then (
some v1)
else (
(X6_toldAt t0 v2 I0).bind (fun (y5 : Int32) =>
jlet ((v1 ||| (jlshl (1 : Int64) y5))) (fun (y7 : Int64) =>
g3 y7 (v2 + (1 : Int32)))))
def X6_pagesTold (t0 : Nat) (p0 : Int32) (p1 : Int32) (I0 : jI) : Option (Int64) :=
jfx (X6_pagesTold_F1 t0 p1 I0) (fun _ _ => none) 1000 (0 : Int64) p0
set_option maxRecDepth 20000 in
set_option maxHeartbeats 4000000 in
theorem W_X6_pagesTold {Y : jY} {Z : jZ} {Qf : Int64 → State → Prop} (hz0 : Y.zf = false) (t0 : Nat) (ht0 : shC t0 = 7) (p0 : Int32) (p1 : Int32) (I0 : jI) (L0 : jL) (hX : jOK Y Z RX6 cX6_pagesTold 6 "pagesTold" (some .long) 3 123 0 0) (hQ : ∀ r : Int64, Qf r = jQ Y Z 0 0 (some (jl r)) NC shC rfC I0 L0) : J Y Z 6 Qf (X6_pagesTold t0 p0 p1 I0) 0 [(0, jr t0), (1, ji p0), (2, ji p1)] [] 0 0 NC shC rfC I0 L0 := by
  unfold X6_pagesTold
  refine J_lconst (pc := 0) hX (v := (0 : Int64)) (by decide) dX6_pagesTold_0 ?_
  refine J_lstore_n (pc := 1) hX (lo' := [(3, jl (0 : Int64)), (0, jr t0), (1, ji p0), (2, ji p1)]) (by decide) rfl dX6_pagesTold_1 ?_
  refine J_iload_n (pc := 2) hX 2 rfl dX6_pagesTold_2 ?_
  refine J_istore (pc := 3) hX (lo' := [(5, ji p0), (3, jl (0 : Int64)), (0, jr t0), (1, ji p0), (2, ji p1)]) (by decide) rfl dX6_pagesTold_3 ?_
  have lhg3 : ∀ mq : Nat, ∀ (v1 : Int64) (v2 : Int32), J Y Z 6 Qf (jfx (X6_pagesTold_F1 t0 p1 I0) (fun _ _ => none) mq v1 v2) 5 [(0, jr t0), (2, ji p1), (3, jl v1), (5, ji v2)] [] 0 0 NC shC rfC I0 L0 := by
    intro mq
    refine jfx_J (fun (_ : Nat) (g3 : Int64 → Int32 → Option (Int64)) => ∀ (v1 : Int64) (v2 : Int32), J Y Z 6 Qf (g3 v1 v2) 5 [(0, jr t0), (2, ji p1), (3, jl v1), (5, ji v2)] [] 0 0 NC shC rfC I0 L0) ?_ (fun _ g3 hg3 => ?_) mq
    · intro v1 v2
      exact J_none
    intro v1 v2
    unfold X6_pagesTold_F1
    try dsimp only
    refine J_iload (pc := 5) hX 3 rfl dX6_pagesTold_5 ?_
    refine J_iload_n (pc := 7) hX 1 rfl dX6_pagesTold_7 ?_
    refine J_icmp_ge (pc := 8) hX (tgt := 28) (by decide) dX6_pagesTold_8 (fun h4 => ?_) (fun h4 => ?_)
    · refine J_lload_n (pc := 28) hX 2 rfl dX6_pagesTold_28 ?_
      exact J_lret (pc := 29) hX (hQ _) dX6_pagesTold_29
    · refine J_lload_n (pc := 11) hX 2 rfl dX6_pagesTold_11 ?_
      refine J_lconst (pc := 12) hX (v := (1 : Int64)) (by decide) dX6_pagesTold_12 ?_
      refine J_aload_n (pc := 13) hX 0 rfl dX6_pagesTold_13 ?_
      refine J_iload (pc := 14) hX 3 rfl dX6_pagesTold_14 ?_
      refine J_call1 (fun y5 e6 => ?_)
      refine jrun_i (pc := 16) (jRunV hX s_X6_244 (ci := 6) (T := TX6) (N := 8) (As := [ji v2]) (rest := [jl (1 : Int64), jl v1]) rfl (by decide) (C_X6_toldAt Y hz0 t0 ht0 v2 I0 L0 y5 e6) ht0 rfl rfl ⟨by decide, by decide⟩ ⟨Nat.le_of_ble_eq_true rfl, Nat.le_of_ble_eq_true rfl⟩ (Nat.le_of_ble_eq_true rfl) dX6_pagesTold_16) ?_
      refine J_lshl (pc := 19) hX dX6_pagesTold_19 ?_
      refine J_lor (pc := 20) hX dX6_pagesTold_20 ?_
      refine J_letl (fun y7 => ?_)
      refine J_lstore_n (pc := 21) hX (lo' := [(3, jl y7), (0, jr t0), (2, ji p1), (5, ji v2)]) (by decide) rfl dX6_pagesTold_21 ?_
      refine J_iinc (pc := 22) hX (v := (v2 + (1 : Int32))) (lo' := [(5, ji (v2 + (1 : Int32))), (3, jl y7), (0, jr t0), (2, ji p1)]) 3 rfl (by rfl) (by decide) rfl dX6_pagesTold_22 ?_
      refine J_goto (pc := 25) hX (tgt := 5) (by decide) dX6_pagesTold_25 ?_
      refine J_sub [2, 3, 1, 0] rfl ?_
      exact hg3 y7 (v2 + (1 : Int32))
  refine J_sub [2, 4, 1, 0] rfl ?_
  exact lhg3 1000 (0 : Int64) p0
theorem C_X6_pagesTold (Y : jY) (hz0 : Y.zf = false) (t0 : Nat) (ht0 : shC t0 = 7) (p0 : Int32) (p1 : Int32) (I0 : jI) (L0 : jL) (r : Int64) (h : X6_pagesTold t0 p0 p1 I0 = some r) : jMet Y yX6_pagesTold cX6_pagesTold 6 (some .long) 3 123 0 0 [jr t0, ji p0, ji p1] NC shC rfC I0 L0 (some (jl r)) NC shC rfC I0 L0 :=
  jmet_of _ _ h (fun Z r => jQ Y Z 0 0 (some (jl r)) NC shC rfC I0 L0) (fun _ => rfl) (by decide) (Nat.le_of_ble_eq_true rfl) (fun Z hX => W_X6_pagesTold hz0 t0 ht0 p0 p1 I0 L0 hX (fun _ => rfl))
def X6_reuseOf_F1 (t0 : Nat) (p0 : Int32) (I0 : jI) (k3 : Int32 → Option (Int32)) (g9 : Int32 → Option (Int32)) : Int32 → Option (Int32) := fun (v8 : Int32) =>
if v8 < 0 then (
some (-1 : Int32))
else (
(X6_toldAt t0 v8 I0).bind (fun (y11 : Int32) =>
(X6_toldAt t0 p0 I0).bind (fun (y13 : Int32) =>
if y11 = y13 then (
k3 v8)
else (
g9 (v8 + (-1 : Int32))))))
def X6_reuseOf (t0 : Nat) (p0 : Int32) (I0 : jI) : Option (Int32) :=
jlet ((p0 - (1 : Int32))) (fun (y1 : Int32) =>
jlet (fun (v2 : Int32) =>
(X6_pagesTold t0 (v2 + (1 : Int32)) p0 I0).bind (fun (y4 : Int64) =>
(J13_bitCount_95d88 y4).bind (fun (y6 : Int32) =>
some y6))) (fun (k3 : Int32 → Option (Int32)) =>
jfx (X6_reuseOf_F1 t0 p0 I0 k3) (fun _ => none) 1000 y1))
set_option maxRecDepth 20000 in
set_option maxHeartbeats 4000000 in
theorem W_X6_reuseOf {Y : jY} {Z : jZ} {Qf : Int32 → State → Prop} (hz0 : Y.zf = false) (t0 : Nat) (ht0 : shC t0 = 7) (p0 : Int32) (I0 : jI) (L0 : jL) (hX : jOK Y Z RX6 cX6_reuseOf 3 "reuseOf" (some .int) 4 148 0 0) (hQ : ∀ r : Int32, Qf r = jQ Y Z 0 0 (some (ji r)) NC shC rfC I0 L0) : J Y Z 3 Qf (X6_reuseOf t0 p0 I0) 0 [(0, jr t0), (1, ji p0)] [] 0 0 NC shC rfC I0 L0 := by
  unfold X6_reuseOf
  refine J_iload_n (pc := 0) hX 1 rfl dX6_reuseOf_0 ?_
  refine J_iconst (pc := 1) hX (v := (1 : Int32)) (by decide) dX6_reuseOf_1 ?_
  refine J_isub (pc := 2) hX dX6_reuseOf_2 ?_
  refine J_leti (fun y1 => ?_)
  refine J_istore_n (pc := 3) hX (lo' := [(2, ji y1), (0, jr t0), (1, ji p0)]) (by decide) rfl dX6_reuseOf_3 ?_
  refine J_join (fun (k3 : Int32 → Option (Int32)) => ∀ (v2 : Int32), J Y Z 3 Qf (k3 v2) 21 [(0, jr t0), (1, ji p0), (2, ji v2)] [] 0 0 NC shC rfC I0 L0) ?_ (fun k3 hk3 => ?_)
  · intro v2
    try dsimp only
    refine J_aload_n (pc := 21) hX 0 rfl dX6_reuseOf_21 ?_
    refine J_iload_n (pc := 22) hX 2 rfl dX6_reuseOf_22 ?_
    refine J_iconst (pc := 23) hX (v := (1 : Int32)) (by decide) dX6_reuseOf_23 ?_
    refine J_iadd (pc := 24) hX dX6_reuseOf_24 ?_
    refine J_iload_n (pc := 25) hX 1 rfl dX6_reuseOf_25 ?_
    refine J_call1 (fun y4 e5 => ?_)
    refine jrun_l (pc := 26) (jRunV hX s_X6_262 (ci := 6) (T := TX6) (N := 8) (As := [ji (v2 + (1 : Int32)), ji p0]) (rest := []) rfl (by decide) (C_X6_pagesTold Y hz0 t0 ht0 (v2 + (1 : Int32)) p0 I0 L0 y4 e5) ht0 rfl rfl ⟨by decide, by decide⟩ ⟨Nat.le_of_ble_eq_true rfl, Nat.le_of_ble_eq_true rfl⟩ (Nat.le_of_ble_eq_true rfl) dX6_reuseOf_26) ?_
    refine J_call1 (fun y6 e7 => ?_)
    refine jrun_i (pc := 29) (jRunS hX s_X6_193 (As := [jl y4]) (rest := []) (C_J13_bitCount_95d88 Y hz0 y4 I0 L0 y6 e7) rfl rfl ⟨by decide, by decide⟩ ⟨Nat.le_of_ble_eq_true rfl, Nat.le_of_ble_eq_true rfl⟩ (Nat.le_of_ble_eq_true rfl) dX6_reuseOf_29) ?_
    exact J_iret (pc := 32) hX (hQ _) dX6_reuseOf_32
  have lhg9 : ∀ mq : Nat, ∀ (v8 : Int32), J Y Z 3 Qf (jfx (X6_reuseOf_F1 t0 p0 I0 k3) (fun _ => none) mq v8) 4 [(0, jr t0), (1, ji p0), (2, ji v8)] [] 0 0 NC shC rfC I0 L0 := by
    intro mq
    refine jfx_J (fun (_ : Nat) (g9 : Int32 → Option (Int32)) => ∀ (v8 : Int32), J Y Z 3 Qf (g9 v8) 4 [(0, jr t0), (1, ji p0), (2, ji v8)] [] 0 0 NC shC rfC I0 L0) ?_ (fun _ g9 hg9 => ?_) mq
    · intro v8
      exact J_none
    intro v8
    unfold X6_reuseOf_F1
    try dsimp only
    refine J_iload_n (pc := 4) hX 2 rfl dX6_reuseOf_4 ?_
    refine J_if_lt (pc := 5) hX (tgt := 39) (by decide) dX6_reuseOf_5 (fun h10 => ?_) (fun h10 => ?_)
    · refine J_iconst (pc := 39) hX (v := (-1 : Int32)) (by decide) dX6_reuseOf_39 ?_
      exact J_iret (pc := 40) hX (hQ _) dX6_reuseOf_40
    · refine J_aload_n (pc := 8) hX 0 rfl dX6_reuseOf_8 ?_
      refine J_iload_n (pc := 9) hX 2 rfl dX6_reuseOf_9 ?_
      refine J_call1 (fun y11 e12 => ?_)
      refine jrun_i (pc := 10) (jRunV hX s_X6_244 (ci := 6) (T := TX6) (N := 8) (As := [ji v8]) (rest := []) rfl (by decide) (C_X6_toldAt Y hz0 t0 ht0 v8 I0 L0 y11 e12) ht0 rfl rfl ⟨by decide, by decide⟩ ⟨Nat.le_of_ble_eq_true rfl, Nat.le_of_ble_eq_true rfl⟩ (Nat.le_of_ble_eq_true rfl) dX6_reuseOf_10) ?_
      refine J_aload_n (pc := 13) hX 0 rfl dX6_reuseOf_13 ?_
      refine J_iload_n (pc := 14) hX 1 rfl dX6_reuseOf_14 ?_
      refine J_call1 (fun y13 e14 => ?_)
      refine jrun_i (pc := 15) (jRunV hX s_X6_244 (ci := 6) (T := TX6) (N := 8) (As := [ji p0]) (rest := [ji y11]) rfl (by decide) (C_X6_toldAt Y hz0 t0 ht0 p0 I0 L0 y13 e14) ht0 rfl rfl ⟨by decide, by decide⟩ ⟨Nat.le_of_ble_eq_true rfl, Nat.le_of_ble_eq_true rfl⟩ (Nat.le_of_ble_eq_true rfl) dX6_reuseOf_15) ?_
      refine J_icmp_ne (pc := 18) hX (tgt := 33) (by decide) dX6_reuseOf_18 (fun h15 => ?_) (fun h15 => ?_)
      · refine J_iinc (pc := 33) hX (v := (v8 + (-1 : Int32))) (lo' := [(2, ji (v8 + (-1 : Int32))), (0, jr t0), (1, ji p0)]) 2 rfl (by rfl) (by decide) rfl dX6_reuseOf_33 ?_
        refine J_goto (pc := 36) hX (tgt := 4) (by decide) dX6_reuseOf_36 ?_
        refine J_sub [1, 2, 0] rfl ?_
        exact hg9 (v8 + (-1 : Int32))
      · exact hk3 v8
  refine J_sub [1, 2, 0] rfl ?_
  exact lhg9 1000 y1
theorem C_X6_reuseOf (Y : jY) (hz0 : Y.zf = false) (t0 : Nat) (ht0 : shC t0 = 7) (p0 : Int32) (I0 : jI) (L0 : jL) (r : Int32) (h : X6_reuseOf t0 p0 I0 = some r) : jMet Y yX6_reuseOf cX6_reuseOf 3 (some .int) 4 148 0 0 [jr t0, ji p0] NC shC rfC I0 L0 (some (ji r)) NC shC rfC I0 L0 :=
  jmet_of _ _ h (fun Z r => jQ Y Z 0 0 (some (ji r)) NC shC rfC I0 L0) (fun _ => rfl) (by decide) (Nat.le_of_ble_eq_true rfl) (fun Z hX => W_X6_reuseOf hz0 t0 ht0 p0 I0 L0 hX (fun _ => rfl))
def X6_reuse (t0 : Nat) (p0 : Int32) (p1 : Int32) (p2 : Int32) (I0 : jI) (L0 : jL) : Option (Int32 × jI) :=
jb2 (X6_hear t0 p0 p1 (1 : Int32) I0 L0) (fun (y1 : Int32) (I2 : jI) =>
if y1 = 0 then (
(X6_isWithin p2 (0 : Int32) (p1 - (1 : Int32))).bind (fun (y5 : Int32) =>
if y5 = 0 then (
jb2 (X6_refuse t0 (-52 : Int32) I2) (fun (y10 : Int32) (I11 : jI) =>
some (y10, I11)))
else (
(X6_reuseOf t0 p2 I2).bind (fun (y8 : Int32) =>
some (y8, I2)))))
else (
some (y1, I2)))
set_option maxRecDepth 20000 in
set_option maxHeartbeats 4000000 in
theorem W_X6_reuse {Y : jY} {Z : jZ} {Qf : Int32 × jI → State → Prop} (hz0 : Y.zf = false) (t0 : Nat) (ht0 : shC t0 = 7) (p0 : Int32) (p1 : Int32) (p2 : Int32) (I0 : jI) (L0 : jL) (hX : jOK Y Z RX6 cX6_reuse 5 "reuse" (some .int) 6 196 0 0) (hQ : ∀ r : Int32 × jI, Qf r = jQ Y Z 0 0 (some (ji r.1)) NC shC rfC r.2 L0) : J Y Z 5 Qf (X6_reuse t0 p0 p1 p2 I0 L0) 0 [(0, jr t0), (1, ji p0), (2, ji p1), (3, ji p2)] [] 0 0 NC shC rfC I0 L0 := by
  unfold X6_reuse
  refine J_aload_n (pc := 0) hX 0 rfl dX6_reuse_0 ?_
  refine J_iload_n (pc := 1) hX 1 rfl dX6_reuse_1 ?_
  refine J_iload_n (pc := 2) hX 2 rfl dX6_reuse_2 ?_
  refine J_iconst (pc := 3) hX (v := (1 : Int32)) (by decide) dX6_reuse_3 ?_
  refine J_call2 (fun y1 I2 e3 => ?_)
  refine jrun_i (pc := 4) (jRunV hX s_X6_240 (ci := 6) (T := TX6) (N := 8) (As := [ji p0, ji p1, ji (1 : Int32)]) (rest := []) rfl (by decide) (C_X6_hear Y hz0 t0 ht0 p0 p1 (1 : Int32) I0 L0 y1 I2 e3) ht0 rfl rfl ⟨by decide, by decide⟩ ⟨Nat.le_of_ble_eq_true rfl, Nat.le_of_ble_eq_true rfl⟩ (Nat.le_of_ble_eq_true rfl) dX6_reuse_4) ?_
  refine J_istore (pc := 7) hX (lo' := [(4, ji y1), (0, jr t0), (1, ji p0), (2, ji p1), (3, ji p2)]) (by decide) rfl dX6_reuse_7 ?_
  refine J_iload (pc := 9) hX 0 rfl dX6_reuse_9 ?_
  refine J_if_eq (pc := 11) hX (tgt := 17) (by decide) dX6_reuse_11 (fun h4 => ?_) (fun h4 => ?_)
  · refine J_iload_n (pc := 17) hX 4 rfl dX6_reuse_17 ?_
    refine J_iconst (pc := 18) hX (v := (0 : Int32)) (by decide) dX6_reuse_18 ?_
    refine J_iload_n (pc := 19) hX 3 rfl dX6_reuse_19 ?_
    refine J_iconst (pc := 20) hX (v := (1 : Int32)) (by decide) dX6_reuse_20 ?_
    refine J_isub (pc := 21) hX dX6_reuse_21 ?_
    refine J_call1 (fun y5 e6 => ?_)
    refine jrun_i (pc := 22) (jRunS hX s_X6_47 (As := [ji p2, ji (0 : Int32), ji (p1 - (1 : Int32))]) (rest := []) (C_X6_isWithin Y hz0 p2 (0 : Int32) (p1 - (1 : Int32)) I2 L0 y5 e6) rfl rfl ⟨by decide, by decide⟩ ⟨Nat.le_of_ble_eq_true rfl, Nat.le_of_ble_eq_true rfl⟩ (Nat.le_of_ble_eq_true rfl) dX6_reuse_22) ?_
    refine J_if_ne (pc := 25) hX (tgt := 35) (by decide) dX6_reuse_25 (fun h7 => ?_) (fun h7 => ?_)
    · refine J_aload_n (pc := 35) hX 1 rfl dX6_reuse_35 ?_
      refine J_iload_n (pc := 36) hX 4 rfl dX6_reuse_36 ?_
      refine J_call1 (fun y8 e9 => ?_)
      refine jrun_i (pc := 37) (jRunV hX s_X6_259 (ci := 6) (T := TX6) (N := 8) (As := [ji p2]) (rest := []) rfl (by decide) (C_X6_reuseOf Y hz0 t0 ht0 p2 I2 L0 y8 e9) ht0 rfl rfl ⟨by decide, by decide⟩ ⟨Nat.le_of_ble_eq_true rfl, Nat.le_of_ble_eq_true rfl⟩ (Nat.le_of_ble_eq_true rfl) dX6_reuse_37) ?_
      exact J_iret (pc := 40) hX (hQ _) dX6_reuse_40
    · refine J_aload_n (pc := 28) hX 1 rfl dX6_reuse_28 ?_
      refine J_bipush (pc := 29) hX (v := (-52 : Int32)) (by decide) dX6_reuse_29 ?_
      refine J_call2 (fun y10 I11 e12 => ?_)
      refine jrun_i (pc := 31) (jRunV hX s_X6_51 (ci := 6) (T := TX6) (N := 8) (As := [ji (-52 : Int32)]) (rest := []) rfl (by decide) (C_X6_refuse Y hz0 t0 ht0 (-52 : Int32) I2 L0 y10 I11 e12) ht0 rfl rfl ⟨by decide, by decide⟩ ⟨Nat.le_of_ble_eq_true rfl, Nat.le_of_ble_eq_true rfl⟩ (Nat.le_of_ble_eq_true rfl) dX6_reuse_31) ?_
      exact J_iret (pc := 34) hX (hQ _) dX6_reuse_34
  · refine J_iload (pc := 14) hX 0 rfl dX6_reuse_14 ?_
    exact J_iret (pc := 16) hX (hQ _) dX6_reuse_16
theorem C_X6_reuse (Y : jY) (hz0 : Y.zf = false) (t0 : Nat) (ht0 : shC t0 = 7) (p0 : Int32) (p1 : Int32) (p2 : Int32) (I0 : jI) (L0 : jL) (r : Int32) (I1 : jI) (h : X6_reuse t0 p0 p1 p2 I0 L0 = some (r, I1)) : jMet Y yX6_reuse cX6_reuse 5 (some .int) 6 196 0 0 [jr t0, ji p0, ji p1, ji p2] NC shC rfC I0 L0 (some (ji r)) NC shC rfC I1 L0 :=
  jmet_of _ _ h (fun Z r => jQ Y Z 0 0 (some (ji r.1)) NC shC rfC r.2 L0) (fun _ => rfl) (by decide) (Nat.le_of_ble_eq_true rfl) (fun Z hX => W_X6_reuse hz0 t0 ht0 p0 p1 p2 I0 L0 hX (fun _ => rfl))
def X6_greatestReuse_F1 (t0 : Nat) (p0 : Int32) (I0 : jI) (g3 : Int32 → Int32 → Option (Int32)) : Int32 → Int32 → Option (Int32) := fun (v1 : Int32) (v2 : Int32) =>
if p0 ≤ v2 then (
some v1)
else (
(X6_reuseOf t0 v2 I0).bind (fun (y5 : Int32) =>
jlet ((jmax v1 y5)) (fun (y7 : Int32) =>
g3 y7 (v2 + (1 : Int32)))))
def X6_greatestReuse (t0 : Nat) (p0 : Int32) (I0 : jI) : Option (Int32) :=
jfx (X6_greatestReuse_F1 t0 p0 I0) (fun _ _ => none) 1000 (-1 : Int32) (0 : Int32)
set_option maxRecDepth 20000 in
set_option maxHeartbeats 4000000 in
theorem W_X6_greatestReuse {Y : jY} {Z : jZ} {Qf : Int32 → State → Prop} (hz0 : Y.zf = false) (t0 : Nat) (ht0 : shC t0 = 7) (p0 : Int32) (I0 : jI) (L0 : jL) (hX : jOK Y Z RX6 cX6_greatestReuse 4 "greatestReuse" (some .int) 5 170 0 0) (hQ : ∀ r : Int32, Qf r = jQ Y Z 0 0 (some (ji r)) NC shC rfC I0 L0) : J Y Z 4 Qf (X6_greatestReuse t0 p0 I0) 0 [(0, jr t0), (1, ji p0)] [] 0 0 NC shC rfC I0 L0 := by
  unfold X6_greatestReuse
  refine J_iconst (pc := 0) hX (v := (-1 : Int32)) (by decide) dX6_greatestReuse_0 ?_
  refine J_istore_n (pc := 1) hX (lo' := [(2, ji (-1 : Int32)), (0, jr t0), (1, ji p0)]) (by decide) rfl dX6_greatestReuse_1 ?_
  refine J_iconst (pc := 2) hX (v := (0 : Int32)) (by decide) dX6_greatestReuse_2 ?_
  refine J_istore_n (pc := 3) hX (lo' := [(3, ji (0 : Int32)), (2, ji (-1 : Int32)), (0, jr t0), (1, ji p0)]) (by decide) rfl dX6_greatestReuse_3 ?_
  have lhg3 : ∀ mq : Nat, ∀ (v1 : Int32) (v2 : Int32), J Y Z 4 Qf (jfx (X6_greatestReuse_F1 t0 p0 I0) (fun _ _ => none) mq v1 v2) 4 [(0, jr t0), (1, ji p0), (2, ji v1), (3, ji v2)] [] 0 0 NC shC rfC I0 L0 := by
    intro mq
    refine jfx_J (fun (_ : Nat) (g3 : Int32 → Int32 → Option (Int32)) => ∀ (v1 : Int32) (v2 : Int32), J Y Z 4 Qf (g3 v1 v2) 4 [(0, jr t0), (1, ji p0), (2, ji v1), (3, ji v2)] [] 0 0 NC shC rfC I0 L0) ?_ (fun _ g3 hg3 => ?_) mq
    · intro v1 v2
      exact J_none
    intro v1 v2
    unfold X6_greatestReuse_F1
    try dsimp only
    refine J_iload_n (pc := 4) hX 3 rfl dX6_greatestReuse_4 ?_
    refine J_iload_n (pc := 5) hX 1 rfl dX6_greatestReuse_5 ?_
    refine J_icmp_ge (pc := 6) hX (tgt := 25) (by decide) dX6_greatestReuse_6 (fun h4 => ?_) (fun h4 => ?_)
    · refine J_iload_n (pc := 25) hX 2 rfl dX6_greatestReuse_25 ?_
      exact J_iret (pc := 26) hX (hQ _) dX6_greatestReuse_26
    · refine J_iload_n (pc := 9) hX 2 rfl dX6_greatestReuse_9 ?_
      refine J_aload_n (pc := 10) hX 0 rfl dX6_greatestReuse_10 ?_
      refine J_iload_n (pc := 11) hX 3 rfl dX6_greatestReuse_11 ?_
      refine J_call1 (fun y5 e6 => ?_)
      refine jrun_i (pc := 12) (jRunV hX s_X6_259 (ci := 6) (T := TX6) (N := 8) (As := [ji v2]) (rest := [ji v1]) rfl (by decide) (C_X6_reuseOf Y hz0 t0 ht0 v2 I0 L0 y5 e6) ht0 rfl rfl ⟨by decide, by decide⟩ ⟨Nat.le_of_ble_eq_true rfl, Nat.le_of_ble_eq_true rfl⟩ (Nat.le_of_ble_eq_true rfl) dX6_greatestReuse_12) ?_
      refine J_mmax (pc := 15) hX m_X6_332 ⟨by decide, by decide⟩ ⟨Nat.le_of_ble_eq_true rfl, Nat.le_of_ble_eq_true rfl⟩ (Nat.le_of_ble_eq_true rfl) dX6_greatestReuse_15 ?_
      refine J_leti (fun y7 => ?_)
      refine J_istore_n (pc := 18) hX (lo' := [(2, ji y7), (0, jr t0), (1, ji p0), (3, ji v2)]) (by decide) rfl dX6_greatestReuse_18 ?_
      refine J_iinc (pc := 19) hX (v := (v2 + (1 : Int32))) (lo' := [(3, ji (v2 + (1 : Int32))), (2, ji y7), (0, jr t0), (1, ji p0)]) 3 rfl (by rfl) (by decide) rfl dX6_greatestReuse_19 ?_
      refine J_goto (pc := 22) hX (tgt := 4) (by decide) dX6_greatestReuse_22 ?_
      refine J_sub [2, 3, 1, 0] rfl ?_
      exact hg3 y7 (v2 + (1 : Int32))
  refine J_sub [2, 3, 1, 0] rfl ?_
  exact lhg3 1000 (-1 : Int32) (0 : Int32)
theorem C_X6_greatestReuse (Y : jY) (hz0 : Y.zf = false) (t0 : Nat) (ht0 : shC t0 = 7) (p0 : Int32) (I0 : jI) (L0 : jL) (r : Int32) (h : X6_greatestReuse t0 p0 I0 = some r) : jMet Y yX6_greatestReuse cX6_greatestReuse 4 (some .int) 5 170 0 0 [jr t0, ji p0] NC shC rfC I0 L0 (some (ji r)) NC shC rfC I0 L0 :=
  jmet_of _ _ h (fun Z r => jQ Y Z 0 0 (some (ji r)) NC shC rfC I0 L0) (fun _ => rfl) (by decide) (Nat.le_of_ble_eq_true rfl) (fun Z hX => W_X6_greatestReuse hz0 t0 ht0 p0 I0 L0 hX (fun _ => rfl))
def X6_oftenestTold_F1 (t0 : Nat) (p0 : Int32) (I0 : jI) (v3 : Int32) (k7 : Int32 → Option (Int32)) (g14 : Int32 → Int32 → Option (Int32)) : Int32 → Int32 → Option (Int32) := fun (v12 : Int32) (v13 : Int32) =>
if p0 ≤ v13 then (
k7 v12)
else (
(X6_toldAt t0 v13 I0).bind (fun (y16 : Int32) =>
jlet (if y16 = v3 then (1 : Int32) else (0 : Int32)) (fun (y19 : Int32) =>
jlet ((v12 + y19)) (fun (y20 : Int32) =>
g14 y20 (v13 + (1 : Int32))))))
def X6_oftenestTold_F2 (t0 : Nat) (p0 : Int32) (I0 : jI) (g4 : Int32 → Int32 → Int32 → Option (Int32)) : Int32 → Int32 → Int32 → Option (Int32) := fun (v1 : Int32) (v2 : Int32) (v3 : Int32) =>
if (64 : Int32) ≤ v3 then (
some v1)
else (
jlet (fun (v6 : Int32) =>
jlet (fun (v8 : Int32) (v9 : Int32) =>
g4 v8 v9 (v3 + (1 : Int32))) (fun (k10 : Int32 → Int32 → Option (Int32)) =>
if v6 ≤ v2 then (
k10 v1 v2)
else (
k10 v3 v6))) (fun (k7 : Int32 → Option (Int32)) =>
jfx (X6_oftenestTold_F1 t0 p0 I0 v3 k7) (fun _ _ => none) 1000 (0 : Int32) (0 : Int32)))
def X6_oftenestTold (t0 : Nat) (p0 : Int32) (I0 : jI) : Option (Int32) :=
jfx (X6_oftenestTold_F2 t0 p0 I0) (fun _ _ _ => none) 1000 (-1 : Int32) (0 : Int32) (0 : Int32)
set_option maxRecDepth 20000 in
set_option maxHeartbeats 4000000 in
theorem W_X6_oftenestTold {Y : jY} {Z : jZ} {Qf : Int32 → State → Prop} (hz0 : Y.zf = false) (t0 : Nat) (ht0 : shC t0 = 7) (p0 : Int32) (I0 : jI) (L0 : jL) (hX : jOK Y Z RX6 cX6_oftenestTold 7 "oftenestTold" (some .int) 3 123 0 0) (hQ : ∀ r : Int32, Qf r = jQ Y Z 0 0 (some (ji r)) NC shC rfC I0 L0) : J Y Z 7 Qf (X6_oftenestTold t0 p0 I0) 0 [(0, jr t0), (1, ji p0)] [] 0 0 NC shC rfC I0 L0 := by
  unfold X6_oftenestTold
  refine J_iconst (pc := 0) hX (v := (-1 : Int32)) (by decide) dX6_oftenestTold_0 ?_
  refine J_istore_n (pc := 1) hX (lo' := [(2, ji (-1 : Int32)), (0, jr t0), (1, ji p0)]) (by decide) rfl dX6_oftenestTold_1 ?_
  refine J_iconst (pc := 2) hX (v := (0 : Int32)) (by decide) dX6_oftenestTold_2 ?_
  refine J_istore_n (pc := 3) hX (lo' := [(3, ji (0 : Int32)), (2, ji (-1 : Int32)), (0, jr t0), (1, ji p0)]) (by decide) rfl dX6_oftenestTold_3 ?_
  refine J_iconst (pc := 4) hX (v := (0 : Int32)) (by decide) dX6_oftenestTold_4 ?_
  refine J_istore (pc := 5) hX (lo' := [(4, ji (0 : Int32)), (3, ji (0 : Int32)), (2, ji (-1 : Int32)), (0, jr t0), (1, ji p0)]) (by decide) rfl dX6_oftenestTold_5 ?_
  have lhg4 : ∀ mq : Nat, ∀ (v1 : Int32) (v2 : Int32) (v3 : Int32), J Y Z 7 Qf (jfx (X6_oftenestTold_F2 t0 p0 I0) (fun _ _ _ => none) mq v1 v2 v3) 7 [(0, jr t0), (1, ji p0), (2, ji v1), (3, ji v2), (4, ji v3)] [] 0 0 NC shC rfC I0 L0 := by
    intro mq
    refine jfx_J (fun (_ : Nat) (g4 : Int32 → Int32 → Int32 → Option (Int32)) => ∀ (v1 : Int32) (v2 : Int32) (v3 : Int32), J Y Z 7 Qf (g4 v1 v2 v3) 7 [(0, jr t0), (1, ji p0), (2, ji v1), (3, ji v2), (4, ji v3)] [] 0 0 NC shC rfC I0 L0) ?_ (fun _ g4 hg4 => ?_) mq
    · intro v1 v2 v3
      exact J_none
    intro v1 v2 v3
    unfold X6_oftenestTold_F2
    try dsimp only
    refine J_iload (pc := 7) hX 4 rfl dX6_oftenestTold_7 ?_
    refine J_bipush (pc := 9) hX (v := (64 : Int32)) (by decide) dX6_oftenestTold_9 ?_
    refine J_icmp_ge (pc := 11) hX (tgt := 71) (by decide) dX6_oftenestTold_11 (fun h5 => ?_) (fun h5 => ?_)
    · refine J_iload_n (pc := 71) hX 2 rfl dX6_oftenestTold_71 ?_
      exact J_iret (pc := 72) hX (hQ _) dX6_oftenestTold_72
    · refine J_iconst (pc := 14) hX (v := (0 : Int32)) (by decide) dX6_oftenestTold_14 ?_
      refine J_istore (pc := 15) hX (lo' := [(5, ji (0 : Int32)), (0, jr t0), (1, ji p0), (2, ji v1), (3, ji v2), (4, ji v3)]) (by decide) rfl dX6_oftenestTold_15 ?_
      refine J_iconst (pc := 17) hX (v := (0 : Int32)) (by decide) dX6_oftenestTold_17 ?_
      refine J_istore (pc := 18) hX (lo' := [(6, ji (0 : Int32)), (5, ji (0 : Int32)), (0, jr t0), (1, ji p0), (2, ji v1), (3, ji v2), (4, ji v3)]) (by decide) rfl dX6_oftenestTold_18 ?_
      refine J_join (fun (k7 : Int32 → Option (Int32)) => ∀ (v6 : Int32), J Y Z 7 Qf (k7 v6) 53 [(0, jr t0), (1, ji p0), (2, ji v1), (3, ji v2), (4, ji v3), (5, ji v6)] [] 0 0 NC shC rfC I0 L0) ?_ (fun k7 hk7 => ?_)
      · intro v6
        try dsimp only
        refine J_iload (pc := 53) hX 5 rfl dX6_oftenestTold_53 ?_
        refine J_iload_n (pc := 55) hX 3 rfl dX6_oftenestTold_55 ?_
        refine J_join (fun (k10 : Int32 → Int32 → Option (Int32)) => ∀ (v8 : Int32) (v9 : Int32), J Y Z 7 Qf (k10 v8 v9) 65 [(0, jr t0), (1, ji p0), (2, ji v8), (3, ji v9), (4, ji v3)] [] 0 0 NC shC rfC I0 L0) ?_ (fun k10 hk10 => ?_)
        · intro v8 v9
          try dsimp only
          refine J_iinc (pc := 65) hX (v := (v3 + (1 : Int32))) (lo' := [(4, ji (v3 + (1 : Int32))), (0, jr t0), (1, ji p0), (2, ji v8), (3, ji v9)]) 4 rfl (by rfl) (by decide) rfl dX6_oftenestTold_65 ?_
          refine J_goto (pc := 68) hX (tgt := 7) (by decide) dX6_oftenestTold_68 ?_
          refine J_sub [1, 2, 3, 4, 0] rfl ?_
          exact hg4 v8 v9 (v3 + (1 : Int32))
        refine J_icmp_le (pc := 56) hX (tgt := 65) (by decide) dX6_oftenestTold_56 (fun h11 => ?_) (fun h11 => ?_)
        · refine J_sub [0, 1, 2, 3, 4] rfl ?_
          exact hk10 v1 v2
        · refine J_iload (pc := 59) hX 4 rfl dX6_oftenestTold_59 ?_
          refine J_istore_n (pc := 61) hX (lo' := [(2, ji v3), (0, jr t0), (1, ji p0), (3, ji v2), (4, ji v3), (5, ji v6)]) (by decide) rfl dX6_oftenestTold_61 ?_
          refine J_iload (pc := 62) hX 5 rfl dX6_oftenestTold_62 ?_
          refine J_istore_n (pc := 64) hX (lo' := [(3, ji v6), (2, ji v3), (0, jr t0), (1, ji p0), (4, ji v3), (5, ji v6)]) (by decide) rfl dX6_oftenestTold_64 ?_
          refine J_sub [2, 3, 1, 0, 4] rfl ?_
          exact hk10 v3 v6
      have lhg14 : ∀ mq : Nat, ∀ (v12 : Int32) (v13 : Int32), J Y Z 7 Qf (jfx (X6_oftenestTold_F1 t0 p0 I0 v3 k7) (fun _ _ => none) mq v12 v13) 20 [(0, jr t0), (1, ji p0), (2, ji v1), (3, ji v2), (4, ji v3), (5, ji v12), (6, ji v13)] [] 0 0 NC shC rfC I0 L0 := by
        intro mq
        refine jfx_J (fun (_ : Nat) (g14 : Int32 → Int32 → Option (Int32)) => ∀ (v12 : Int32) (v13 : Int32), J Y Z 7 Qf (g14 v12 v13) 20 [(0, jr t0), (1, ji p0), (2, ji v1), (3, ji v2), (4, ji v3), (5, ji v12), (6, ji v13)] [] 0 0 NC shC rfC I0 L0) ?_ (fun _ g14 hg14 => ?_) mq
        · intro v12 v13
          exact J_none
        intro v12 v13
        unfold X6_oftenestTold_F1
        try dsimp only
        refine J_iload (pc := 20) hX 6 rfl dX6_oftenestTold_20 ?_
        refine J_iload_n (pc := 22) hX 1 rfl dX6_oftenestTold_22 ?_
        refine J_icmp_ge (pc := 23) hX (tgt := 53) (by decide) dX6_oftenestTold_23 (fun h15 => ?_) (fun h15 => ?_)
        · refine J_sub [0, 1, 2, 3, 4, 5] rfl ?_
          exact hk7 v12
        · refine J_iload (pc := 26) hX 5 rfl dX6_oftenestTold_26 ?_
          refine J_aload_n (pc := 28) hX 0 rfl dX6_oftenestTold_28 ?_
          refine J_iload (pc := 29) hX 6 rfl dX6_oftenestTold_29 ?_
          refine J_call1 (fun y16 e17 => ?_)
          refine jrun_i (pc := 31) (jRunV hX s_X6_244 (ci := 6) (T := TX6) (N := 8) (As := [ji v13]) (rest := [ji v12]) rfl (by decide) (C_X6_toldAt Y hz0 t0 ht0 v13 I0 L0 y16 e17) ht0 rfl rfl ⟨by decide, by decide⟩ ⟨Nat.le_of_ble_eq_true rfl, Nat.le_of_ble_eq_true rfl⟩ (Nat.le_of_ble_eq_true rfl) dX6_oftenestTold_31) ?_
          refine J_iload (pc := 34) hX 4 rfl dX6_oftenestTold_34 ?_
          refine J_vjoin (fun kq (y19 : Int32) => J Y Z 7 Qf (kq) 44 [(0, jr t0), (1, ji p0), (2, ji v1), (3, ji v2), (4, ji v3), (5, ji v12), (6, ji v13)] [ji y19, ji v12] 0 0 NC shC rfC I0 L0) (fun y19 => ?_) (fun hj => ?_)
          · try dsimp only
            refine J_iadd (pc := 44) hX dX6_oftenestTold_44 ?_
            refine J_leti (fun y20 => ?_)
            refine J_istore (pc := 45) hX (lo' := [(5, ji y20), (0, jr t0), (1, ji p0), (2, ji v1), (3, ji v2), (4, ji v3), (6, ji v13)]) (by decide) rfl dX6_oftenestTold_45 ?_
            refine J_iinc (pc := 47) hX (v := (v13 + (1 : Int32))) (lo' := [(6, ji (v13 + (1 : Int32))), (5, ji y20), (0, jr t0), (1, ji p0), (2, ji v1), (3, ji v2), (4, ji v3)]) 6 rfl (by rfl) (by decide) rfl dX6_oftenestTold_47 ?_
            refine J_goto (pc := 50) hX (tgt := 20) (by decide) dX6_oftenestTold_50 ?_
            refine J_sub [2, 3, 4, 5, 6, 1, 0] rfl ?_
            exact hg14 y20 (v13 + (1 : Int32))
          try dsimp only at hj
          refine J_icmp_neV (pc := 36) hX (tgt := 43) (by decide) dX6_oftenestTold_36 (fun h18 => ?_) (fun h18 => ?_)
          · refine J_iconst (pc := 43) hX (v := (0 : Int32)) (by decide) dX6_oftenestTold_43 ?_
            exact hj _
          · refine J_iconst (pc := 39) hX (v := (1 : Int32)) (by decide) dX6_oftenestTold_39 ?_
            refine J_goto (pc := 40) hX (tgt := 44) (by decide) dX6_oftenestTold_40 ?_
            exact hj _
      refine J_sub [2, 3, 4, 5, 6, 1, 0] rfl ?_
      exact lhg14 1000 (0 : Int32) (0 : Int32)
  refine J_sub [3, 4, 2, 1, 0] rfl ?_
  exact lhg4 1000 (-1 : Int32) (0 : Int32) (0 : Int32)
theorem C_X6_oftenestTold (Y : jY) (hz0 : Y.zf = false) (t0 : Nat) (ht0 : shC t0 = 7) (p0 : Int32) (I0 : jI) (L0 : jL) (r : Int32) (h : X6_oftenestTold t0 p0 I0 = some r) : jMet Y yX6_oftenestTold cX6_oftenestTold 7 (some .int) 3 123 0 0 [jr t0, ji p0] NC shC rfC I0 L0 (some (ji r)) NC shC rfC I0 L0 :=
  jmet_of _ _ h (fun Z r => jQ Y Z 0 0 (some (ji r)) NC shC rfC I0 L0) (fun _ => rfl) (by decide) (Nat.le_of_ble_eq_true rfl) (fun Z hX => W_X6_oftenestTold hz0 t0 ht0 p0 I0 L0 hX (fun _ => rfl))
def X6_rowOf (t0 : Nat) (p0 : Int32) (p1 : Int32) (p2 : Int32) (I0 : jI) (L0 : jL) : Option (Int32 × jI) :=
(X6_isWithin p2 (0 : Int32) (2 : Int32)).bind (fun (y1 : Int32) =>
jb2 (X6_hear t0 p0 p1 y1 I0 L0) (fun (y3 : Int32) (I4 : jI) =>
if y3 = 0 then (
if p2 = 0 then (
(X6_pagesTold t0 (0 : Int32) p1 I4).bind (fun (y13 : Int64) =>
(J13_bitCount_95d88 y13).bind (fun (y15 : Int32) =>
some (y15, I4))))
else (
if p2 = (1 : Int32) then (
(X6_greatestReuse t0 p1 I4).bind (fun (y11 : Int32) =>
some (y11, I4)))
else (
(X6_oftenestTold t0 p1 I4).bind (fun (y9 : Int32) =>
some (y9, I4)))))
else (
some (y3, I4))))
set_option maxRecDepth 20000 in
set_option maxHeartbeats 4000000 in
theorem W_X6_rowOf {Y : jY} {Z : jZ} {Qf : Int32 × jI → State → Prop} (hz0 : Y.zf = false) (t0 : Nat) (ht0 : shC t0 = 7) (p0 : Int32) (p1 : Int32) (p2 : Int32) (I0 : jI) (L0 : jL) (hX : jOK Y Z RX6 cX6_rowOf 5 "rowOf" (some .int) 6 196 0 0) (hQ : ∀ r : Int32 × jI, Qf r = jQ Y Z 0 0 (some (ji r.1)) NC shC rfC r.2 L0) : J Y Z 5 Qf (X6_rowOf t0 p0 p1 p2 I0 L0) 0 [(0, jr t0), (1, ji p0), (2, ji p1), (3, ji p2)] [] 0 0 NC shC rfC I0 L0 := by
  unfold X6_rowOf
  refine J_aload_n (pc := 0) hX 0 rfl dX6_rowOf_0 ?_
  refine J_iload_n (pc := 1) hX 1 rfl dX6_rowOf_1 ?_
  refine J_iload_n (pc := 2) hX 2 rfl dX6_rowOf_2 ?_
  refine J_iload_n (pc := 3) hX 3 rfl dX6_rowOf_3 ?_
  refine J_iconst (pc := 4) hX (v := (0 : Int32)) (by decide) dX6_rowOf_4 ?_
  refine J_iconst (pc := 5) hX (v := (2 : Int32)) (by decide) dX6_rowOf_5 ?_
  refine J_call1 (fun y1 e2 => ?_)
  refine jrun_i (pc := 6) (jRunS hX s_X6_47 (As := [ji p2, ji (0 : Int32), ji (2 : Int32)]) (rest := [ji p1, ji p0, jr t0]) (C_X6_isWithin Y hz0 p2 (0 : Int32) (2 : Int32) I0 L0 y1 e2) rfl rfl ⟨by decide, by decide⟩ ⟨Nat.le_of_ble_eq_true rfl, Nat.le_of_ble_eq_true rfl⟩ (Nat.le_of_ble_eq_true rfl) dX6_rowOf_6) ?_
  refine J_call2 (fun y3 I4 e5 => ?_)
  refine jrun_i (pc := 9) (jRunV hX s_X6_240 (ci := 6) (T := TX6) (N := 8) (As := [ji p0, ji p1, ji y1]) (rest := []) rfl (by decide) (C_X6_hear Y hz0 t0 ht0 p0 p1 y1 I0 L0 y3 I4 e5) ht0 rfl rfl ⟨by decide, by decide⟩ ⟨Nat.le_of_ble_eq_true rfl, Nat.le_of_ble_eq_true rfl⟩ (Nat.le_of_ble_eq_true rfl) dX6_rowOf_9) ?_
  refine J_istore (pc := 12) hX (lo' := [(4, ji y3), (0, jr t0), (1, ji p0), (2, ji p1), (3, ji p2)]) (by decide) rfl dX6_rowOf_12 ?_
  refine J_iload (pc := 14) hX 0 rfl dX6_rowOf_14 ?_
  refine J_if_eq (pc := 16) hX (tgt := 22) (by decide) dX6_rowOf_16 (fun h6 => ?_) (fun h6 => ?_)
  · refine J_iload_n (pc := 22) hX 4 rfl dX6_rowOf_22 ?_
    refine J_if_ne (pc := 23) hX (tgt := 36) (by decide) dX6_rowOf_23 (fun h7 => ?_) (fun h7 => ?_)
    · refine J_iload_n (pc := 36) hX 4 rfl dX6_rowOf_36 ?_
      refine J_iconst (pc := 37) hX (v := (1 : Int32)) (by decide) dX6_rowOf_37 ?_
      refine J_icmp_ne (pc := 38) hX (tgt := 49) (by decide) dX6_rowOf_38 (fun h8 => ?_) (fun h8 => ?_)
      · refine J_aload_n (pc := 49) hX 1 rfl dX6_rowOf_49 ?_
        refine J_iload_n (pc := 50) hX 3 rfl dX6_rowOf_50 ?_
        refine J_call1 (fun y9 e10 => ?_)
        refine jrun_i (pc := 51) (jRunV hX s_X6_269 (ci := 6) (T := TX6) (N := 8) (As := [ji p1]) (rest := []) rfl (by decide) (C_X6_oftenestTold Y hz0 t0 ht0 p1 I4 L0 y9 e10) ht0 rfl rfl ⟨by decide, by decide⟩ ⟨Nat.le_of_ble_eq_true rfl, Nat.le_of_ble_eq_true rfl⟩ (Nat.le_of_ble_eq_true rfl) dX6_rowOf_51) ?_
        exact J_iret (pc := 54) hX (hQ _) dX6_rowOf_54
      · refine J_aload_n (pc := 41) hX 1 rfl dX6_rowOf_41 ?_
        refine J_iload_n (pc := 42) hX 3 rfl dX6_rowOf_42 ?_
        refine J_call1 (fun y11 e12 => ?_)
        refine jrun_i (pc := 43) (jRunV hX s_X6_266 (ci := 6) (T := TX6) (N := 8) (As := [ji p1]) (rest := []) rfl (by decide) (C_X6_greatestReuse Y hz0 t0 ht0 p1 I4 L0 y11 e12) ht0 rfl rfl ⟨by decide, by decide⟩ ⟨Nat.le_of_ble_eq_true rfl, Nat.le_of_ble_eq_true rfl⟩ (Nat.le_of_ble_eq_true rfl) dX6_rowOf_43) ?_
        refine J_goto (pc := 46) hX (tgt := 54) (by decide) dX6_rowOf_46 ?_
        exact J_iret (pc := 54) hX (hQ _) dX6_rowOf_54
    · refine J_aload_n (pc := 26) hX 1 rfl dX6_rowOf_26 ?_
      refine J_iconst (pc := 27) hX (v := (0 : Int32)) (by decide) dX6_rowOf_27 ?_
      refine J_iload_n (pc := 28) hX 3 rfl dX6_rowOf_28 ?_
      refine J_call1 (fun y13 e14 => ?_)
      refine jrun_l (pc := 29) (jRunV hX s_X6_262 (ci := 6) (T := TX6) (N := 8) (As := [ji (0 : Int32), ji p1]) (rest := []) rfl (by decide) (C_X6_pagesTold Y hz0 t0 ht0 (0 : Int32) p1 I4 L0 y13 e14) ht0 rfl rfl ⟨by decide, by decide⟩ ⟨Nat.le_of_ble_eq_true rfl, Nat.le_of_ble_eq_true rfl⟩ (Nat.le_of_ble_eq_true rfl) dX6_rowOf_29) ?_
      refine J_call1 (fun y15 e16 => ?_)
      refine jrun_i (pc := 32) (jRunS hX s_X6_193 (As := [jl y13]) (rest := []) (C_J13_bitCount_95d88 Y hz0 y13 I4 L0 y15 e16) rfl rfl ⟨by decide, by decide⟩ ⟨Nat.le_of_ble_eq_true rfl, Nat.le_of_ble_eq_true rfl⟩ (Nat.le_of_ble_eq_true rfl) dX6_rowOf_32) ?_
      exact J_iret (pc := 35) hX (hQ _) dX6_rowOf_35
  · refine J_iload (pc := 19) hX 0 rfl dX6_rowOf_19 ?_
    exact J_iret (pc := 21) hX (hQ _) dX6_rowOf_21
theorem C_X6_rowOf (Y : jY) (hz0 : Y.zf = false) (t0 : Nat) (ht0 : shC t0 = 7) (p0 : Int32) (p1 : Int32) (p2 : Int32) (I0 : jI) (L0 : jL) (r : Int32) (I1 : jI) (h : X6_rowOf t0 p0 p1 p2 I0 L0 = some (r, I1)) : jMet Y yX6_rowOf cX6_rowOf 5 (some .int) 6 196 0 0 [jr t0, ji p0, ji p1, ji p2] NC shC rfC I0 L0 (some (ji r)) NC shC rfC I1 L0 :=
  jmet_of _ _ h (fun Z r => jQ Y Z 0 0 (some (ji r.1)) NC shC rfC r.2 L0) (fun _ => rfl) (by decide) (Nat.le_of_ble_eq_true rfl) (fun Z hX => W_X6_rowOf hz0 t0 ht0 p0 p1 p2 I0 L0 hX (fun _ => rfl))
def X6_judge_F1 (t0 : Nat) (p0 : Int32) (p1 : Int32) (L0 : jL) (g12 : Int32 → jI → Option (Int32 × jI)) : Int32 → jI → Option (Int32 × jI) := fun (v10 : Int32) (I11 : jI) =>
if p1 ≤ v10 then (
some ((-1 : Int32), I11))
else (
(X6_toldAt t0 v10 I11).bind (fun (y14 : Int32) =>
jb2 (X4_access (rfC t0 1) y14 (0 : Int32) (0 : Int32) I11) (fun (y16 : Int32) (I17 : jI) =>
(X6_element t0 p0 (((2 : Int32) * v10) + (1 : Int32)) I17 L0).bind (fun (y19 : Int64) =>
if (lg_cmp y19 (((I17 (rfC t0 1) 16)).toInt64)) = 0 then (
g12 (v10 + (1 : Int32)) I17)
else (
some (v10, I17))))))
def X6_judge (t0 : Nat) (p0 : Int32) (p1 : Int32) (I0 : jI) (L0 : jL) : Option (Int32 × jI) :=
(X6_isWithin p1 (0 : Int32) (20 : Int32)).bind (fun (y1 : Int32) =>
if y1 = 0 then (
jb2 (X6_refuse t0 (-52 : Int32) I0) (fun (y25 : Int32) (I26 : jI) =>
some (y25, I26)))
else (
jb2 (X6_listen t0 p0 p1 (2 : Int32) I0 L0) (fun (y4 : Int32) (I5 : jI) =>
if y4 = 0 then (
(X4_takeFrom (rfC t0 1) (rfC t0 0) I5).bind (fun (I8 : jI) =>
jfx (X6_judge_F1 t0 p0 p1 L0) (fun _ _ => none) 1000 (0 : Int32) I8))
else (
jb2 (X6_refuse t0 y4 I5) (fun (y22 : Int32) (I23 : jI) =>
some (y22, I23))))))
set_option maxRecDepth 20000 in
set_option maxHeartbeats 4000000 in
theorem W_X6_judge {Y : jY} {Z : jZ} {Qf : Int32 × jI → State → Prop} (hz0 : Y.zf = false) (t0 : Nat) (ht0 : shC t0 = 7) (p0 : Int32) (p1 : Int32) (I0 : jI) (L0 : jL) (hX : jOK Y Z RX6 cX6_judge 5 "judge" (some .int) 46 2208 0 0) (hQ : ∀ r : Int32 × jI, Qf r = jQ Y Z 0 0 (some (ji r.1)) NC shC rfC r.2 L0) : J Y Z 5 Qf (X6_judge t0 p0 p1 I0 L0) 0 [(0, jr t0), (1, ji p0), (2, ji p1)] [] 0 0 NC shC rfC I0 L0 := by
  unfold X6_judge
  refine J_iload_n (pc := 0) hX 2 rfl dX6_judge_0 ?_
  refine J_iconst (pc := 1) hX (v := (0 : Int32)) (by decide) dX6_judge_1 ?_
  refine J_bipush (pc := 2) hX (v := (20 : Int32)) (by decide) dX6_judge_2 ?_
  refine J_call1 (fun y1 e2 => ?_)
  refine jrun_i (pc := 4) (jRunS hX s_X6_47 (As := [ji p1, ji (0 : Int32), ji (20 : Int32)]) (rest := []) (C_X6_isWithin Y hz0 p1 (0 : Int32) (20 : Int32) I0 L0 y1 e2) rfl rfl ⟨by decide, by decide⟩ ⟨Nat.le_of_ble_eq_true rfl, Nat.le_of_ble_eq_true rfl⟩ (Nat.le_of_ble_eq_true rfl) dX6_judge_4) ?_
  refine J_if_ne (pc := 7) hX (tgt := 17) (by decide) dX6_judge_7 (fun h3 => ?_) (fun h3 => ?_)
  · refine J_aload_n (pc := 17) hX 0 rfl dX6_judge_17 ?_
    refine J_iload_n (pc := 18) hX 1 rfl dX6_judge_18 ?_
    refine J_iload_n (pc := 19) hX 2 rfl dX6_judge_19 ?_
    refine J_iconst (pc := 20) hX (v := (2 : Int32)) (by decide) dX6_judge_20 ?_
    refine J_call2 (fun y4 I5 e6 => ?_)
    refine jrun_i (pc := 21) (jRunV hX s_X6_272 (ci := 6) (T := TX6) (N := 8) (As := [ji p0, ji p1, ji (2 : Int32)]) (rest := []) rfl (by decide) (C_X6_listen Y hz0 t0 ht0 p0 p1 (2 : Int32) I0 L0 y4 I5 e6) ht0 rfl rfl ⟨by decide, by decide⟩ ⟨Nat.le_of_ble_eq_true rfl, Nat.le_of_ble_eq_true rfl⟩ (Nat.le_of_ble_eq_true rfl) dX6_judge_21) ?_
    refine J_istore_n (pc := 24) hX (lo' := [(3, ji y4), (0, jr t0), (1, ji p0), (2, ji p1)]) (by decide) rfl dX6_judge_24 ?_
    refine J_iload_n (pc := 25) hX 0 rfl dX6_judge_25 ?_
    refine J_if_eq (pc := 26) hX (tgt := 35) (by decide) dX6_judge_26 (fun h7 => ?_) (fun h7 => ?_)
    · refine J_aload_n (pc := 35) hX 1 rfl dX6_judge_35 ?_
      refine g_X6_16 (pc := 36) hX ht0 dX6_judge_36 ?_
      refine J_aload_n (pc := 39) hX 1 rfl dX6_judge_39 ?_
      refine g_X6_10 (pc := 40) hX ht0 dX6_judge_40 ?_
      refine J_call1 (fun I8 e9 => ?_)
      refine jrun_v (pc := 43) (jRunV hX s_X6_227 (ci := 4) (T := TX4) (N := 18) (As := [jr (rfC t0 0)]) (rest := []) rfl (by decide) (C_X4_takeFrom Y hz0 (rfC t0 1) (fs_6_1 t0 ht0) (rfC t0 0) (fs_6_0 t0 ht0) I5 L0 I8 e9) (fs_6_1 t0 ht0) rfl rfl ⟨by decide, by decide⟩ ⟨Nat.le_of_ble_eq_true rfl, Nat.le_of_ble_eq_true rfl⟩ (Nat.le_of_ble_eq_true rfl) dX6_judge_43) ?_
      refine J_iconst (pc := 46) hX (v := (0 : Int32)) (by decide) dX6_judge_46 ?_
      refine J_istore (pc := 47) hX (lo' := [(4, ji (0 : Int32)), (3, ji y4), (0, jr t0), (1, ji p0), (2, ji p1)]) (by decide) rfl dX6_judge_47 ?_
      have lhg12 : ∀ mq : Nat, ∀ (v10 : Int32) (I11 : jI), J Y Z 5 Qf (jfx (X6_judge_F1 t0 p0 p1 L0) (fun _ _ => none) mq v10 I11) 49 [(0, jr t0), (1, ji p0), (2, ji p1), (4, ji v10)] [] 0 0 NC shC rfC I11 L0 := by
        intro mq
        refine jfx_J (fun (_ : Nat) (g12 : Int32 → jI → Option (Int32 × jI)) => ∀ (v10 : Int32) (I11 : jI), J Y Z 5 Qf (g12 v10 I11) 49 [(0, jr t0), (1, ji p0), (2, ji p1), (4, ji v10)] [] 0 0 NC shC rfC I11 L0) ?_ (fun _ g12 hg12 => ?_) mq
        · intro v10 I11
          exact J_none
        intro v10 I11
        unfold X6_judge_F1
        try dsimp only
        refine J_iload (pc := 49) hX 3 rfl dX6_judge_49 ?_
        refine J_iload_n (pc := 51) hX 2 rfl dX6_judge_51 ?_
        refine J_icmp_ge (pc := 52) hX (tgt := 103) (by decide) dX6_judge_52 (fun h13 => ?_) (fun h13 => ?_)
        · refine J_iconst (pc := 103) hX (v := (-1 : Int32)) (by decide) dX6_judge_103 ?_
          exact J_iret (pc := 104) hX (hQ _) dX6_judge_104
        · refine J_aload_n (pc := 55) hX 0 rfl dX6_judge_55 ?_
          refine g_X6_16 (pc := 56) hX ht0 dX6_judge_56 ?_
          refine J_aload_n (pc := 59) hX 0 rfl dX6_judge_59 ?_
          refine J_iload (pc := 60) hX 3 rfl dX6_judge_60 ?_
          refine J_call1 (fun y14 e15 => ?_)
          refine jrun_i (pc := 62) (jRunV hX s_X6_244 (ci := 6) (T := TX6) (N := 8) (As := [ji v10]) (rest := [jr (rfC t0 1)]) rfl (by decide) (C_X6_toldAt Y hz0 t0 ht0 v10 I11 L0 y14 e15) ht0 rfl rfl ⟨by decide, by decide⟩ ⟨Nat.le_of_ble_eq_true rfl, Nat.le_of_ble_eq_true rfl⟩ (Nat.le_of_ble_eq_true rfl) dX6_judge_62) ?_
          refine J_iconst (pc := 65) hX (v := (0 : Int32)) (by decide) dX6_judge_65 ?_
          refine J_iconst (pc := 66) hX (v := (0 : Int32)) (by decide) dX6_judge_66 ?_
          refine J_call2 (fun y16 I17 e18 => ?_)
          refine jrun_i (pc := 67) (jRunV hX s_X6_152 (ci := 4) (T := TX4) (N := 18) (As := [ji y14, ji (0 : Int32), ji (0 : Int32)]) (rest := []) rfl (by decide) (C_X4_access Y hz0 (rfC t0 1) (fs_6_1 t0 ht0) y14 (0 : Int32) (0 : Int32) I11 L0 y16 I17 e18) (fs_6_1 t0 ht0) rfl rfl ⟨by decide, by decide⟩ ⟨Nat.le_of_ble_eq_true rfl, Nat.le_of_ble_eq_true rfl⟩ (Nat.le_of_ble_eq_true rfl) dX6_judge_67) ?_
          refine J_pop (pc := 70) hX rfl dX6_judge_70 ?_
          refine J_aload_n (pc := 71) hX 0 rfl dX6_judge_71 ?_
          refine J_iload_n (pc := 72) hX 1 rfl dX6_judge_72 ?_
          refine J_iconst (pc := 73) hX (v := (2 : Int32)) (by decide) dX6_judge_73 ?_
          refine J_iload (pc := 74) hX 3 rfl dX6_judge_74 ?_
          refine J_imul (pc := 76) hX dX6_judge_76 ?_
          refine J_iconst (pc := 77) hX (v := (1 : Int32)) (by decide) dX6_judge_77 ?_
          refine J_iadd (pc := 78) hX dX6_judge_78 ?_
          refine J_call1 (fun y19 e20 => ?_)
          refine jrun_l (pc := 79) (jRunV hX s_X6_276 (ci := 6) (T := TX6) (N := 8) (As := [ji p0, ji (((2 : Int32) * v10) + (1 : Int32))]) (rest := []) rfl (by decide) (C_X6_element Y hz0 t0 ht0 p0 (((2 : Int32) * v10) + (1 : Int32)) I17 L0 y19 e20) ht0 rfl rfl ⟨by decide, by decide⟩ ⟨Nat.le_of_ble_eq_true rfl, Nat.le_of_ble_eq_true rfl⟩ (Nat.le_of_ble_eq_true rfl) dX6_judge_79) ?_
          refine J_aload_n (pc := 82) hX 0 rfl dX6_judge_82 ?_
          refine g_X6_16 (pc := 83) hX ht0 dX6_judge_83 ?_
          refine g_X6_247 (pc := 86) hX (fs_6_1 t0 ht0) dX6_judge_86 ?_
          refine J_i2l (pc := 89) hX dX6_judge_89 ?_
          refine J_lcmp (pc := 90) hX dX6_judge_90 ?_
          refine J_if_eq (pc := 91) hX (tgt := 97) (by decide) dX6_judge_91 (fun h21 => ?_) (fun h21 => ?_)
          · refine J_iinc (pc := 97) hX (v := (v10 + (1 : Int32))) (lo' := [(4, ji (v10 + (1 : Int32))), (0, jr t0), (1, ji p0), (2, ji p1)]) 3 rfl (by rfl) (by decide) rfl dX6_judge_97 ?_
            refine J_goto (pc := 100) hX (tgt := 49) (by decide) dX6_judge_100 ?_
            refine J_sub [1, 2, 3, 0] rfl ?_
            exact hg12 (v10 + (1 : Int32)) I17
          · refine J_iload (pc := 94) hX 3 rfl dX6_judge_94 ?_
            exact J_iret (pc := 96) hX (hQ _) dX6_judge_96
      refine J_sub [2, 3, 4, 0] rfl ?_
      exact lhg12 1000 (0 : Int32) I8
    · refine J_aload_n (pc := 29) hX 1 rfl dX6_judge_29 ?_
      refine J_iload_n (pc := 30) hX 0 rfl dX6_judge_30 ?_
      refine J_call2 (fun y22 I23 e24 => ?_)
      refine jrun_i (pc := 31) (jRunV hX s_X6_51 (ci := 6) (T := TX6) (N := 8) (As := [ji y4]) (rest := []) rfl (by decide) (C_X6_refuse Y hz0 t0 ht0 y4 I5 L0 y22 I23 e24) ht0 rfl rfl ⟨by decide, by decide⟩ ⟨Nat.le_of_ble_eq_true rfl, Nat.le_of_ble_eq_true rfl⟩ (Nat.le_of_ble_eq_true rfl) dX6_judge_31) ?_
      exact J_iret (pc := 34) hX (hQ _) dX6_judge_34
  · refine J_aload_n (pc := 10) hX 0 rfl dX6_judge_10 ?_
    refine J_bipush (pc := 11) hX (v := (-52 : Int32)) (by decide) dX6_judge_11 ?_
    refine J_call2 (fun y25 I26 e27 => ?_)
    refine jrun_i (pc := 13) (jRunV hX s_X6_51 (ci := 6) (T := TX6) (N := 8) (As := [ji (-52 : Int32)]) (rest := []) rfl (by decide) (C_X6_refuse Y hz0 t0 ht0 (-52 : Int32) I0 L0 y25 I26 e27) ht0 rfl rfl ⟨by decide, by decide⟩ ⟨Nat.le_of_ble_eq_true rfl, Nat.le_of_ble_eq_true rfl⟩ (Nat.le_of_ble_eq_true rfl) dX6_judge_13) ?_
    exact J_iret (pc := 16) hX (hQ _) dX6_judge_16
theorem C_X6_judge (Y : jY) (hz0 : Y.zf = false) (t0 : Nat) (ht0 : shC t0 = 7) (p0 : Int32) (p1 : Int32) (I0 : jI) (L0 : jL) (r : Int32) (I1 : jI) (h : X6_judge t0 p0 p1 I0 L0 = some (r, I1)) : jMet Y yX6_judge cX6_judge 5 (some .int) 46 2208 0 0 [jr t0, ji p0, ji p1] NC shC rfC I0 L0 (some (ji r)) NC shC rfC I1 L0 :=
  jmet_of _ _ h (fun Z r => jQ Y Z 0 0 (some (ji r.1)) NC shC rfC r.2 L0) (fun _ => rfl) (by decide) (Nat.le_of_ble_eq_true rfl) (fun Z hX => W_X6_judge hz0 t0 ht0 p0 p1 I0 L0 hX (fun _ => rfl))
def X6_past (t0 : Nat) (p0 : Int32) (p1 : Int32) (I0 : jI) : Option (Int32 × jI) :=
(X6_isWithin p0 (0 : Int32) (19 : Int32)).bind (fun (y1 : Int32) =>
if y1 = 0 then (
jb2 (X6_refuse t0 (-52 : Int32) I0) (fun (y4 : Int32) (I5 : jI) =>
some (y4, I5)))
else (
if (I0 (rfC t0 0) 7) ≤ p0 then (
jb2 (X6_refuse t0 (-52 : Int32) I0) (fun (y8 : Int32) (I9 : jI) =>
some (y8, I9)))
else (
(X6_isWithin p1 (0 : Int32) (3 : Int32)).bind (fun (y11 : Int32) =>
if y11 = 0 then (
jb2 (X6_refuse t0 (-52 : Int32) I0) (fun (y16 : Int32) (I17 : jI) =>
some (y16, I17)))
else (
(X1_tells (rfC (rfC t0 0) 15) ((I0 (rfC t0 0) 7) - p0) p1 I0).bind (fun (y14 : Int32) =>
some (y14, I0)))))))
set_option maxRecDepth 20000 in
set_option maxHeartbeats 4000000 in
theorem W_X6_past {Y : jY} {Z : jZ} {Qf : Int32 × jI → State → Prop} (hz0 : Y.zf = false) (t0 : Nat) (ht0 : shC t0 = 7) (p0 : Int32) (p1 : Int32) (I0 : jI) (L0 : jL) (hX : jOK Y Z RX6 cX6_past 3 "past" (some .int) 3 125 0 0) (hQ : ∀ r : Int32 × jI, Qf r = jQ Y Z 0 0 (some (ji r.1)) NC shC rfC r.2 L0) : J Y Z 3 Qf (X6_past t0 p0 p1 I0) 0 [(0, jr t0), (1, ji p0), (2, ji p1)] [] 0 0 NC shC rfC I0 L0 := by
  unfold X6_past
  refine J_iload_n (pc := 0) hX 1 rfl dX6_past_0 ?_
  refine J_iconst (pc := 1) hX (v := (0 : Int32)) (by decide) dX6_past_1 ?_
  refine J_bipush (pc := 2) hX (v := (19 : Int32)) (by decide) dX6_past_2 ?_
  refine J_call1 (fun y1 e2 => ?_)
  refine jrun_i (pc := 4) (jRunS hX s_X6_47 (As := [ji p0, ji (0 : Int32), ji (19 : Int32)]) (rest := []) (C_X6_isWithin Y hz0 p0 (0 : Int32) (19 : Int32) I0 L0 y1 e2) rfl rfl ⟨by decide, by decide⟩ ⟨Nat.le_of_ble_eq_true rfl, Nat.le_of_ble_eq_true rfl⟩ (Nat.le_of_ble_eq_true rfl) dX6_past_4) ?_
  refine J_if_eq (pc := 7) hX (tgt := 30) (by decide) dX6_past_7 (fun h3 => ?_) (fun h3 => ?_)
  · refine J_aload_n (pc := 30) hX 0 rfl dX6_past_30 ?_
    refine J_bipush (pc := 31) hX (v := (-52 : Int32)) (by decide) dX6_past_31 ?_
    refine J_call2 (fun y4 I5 e6 => ?_)
    refine jrun_i (pc := 33) (jRunV hX s_X6_51 (ci := 6) (T := TX6) (N := 8) (As := [ji (-52 : Int32)]) (rest := []) rfl (by decide) (C_X6_refuse Y hz0 t0 ht0 (-52 : Int32) I0 L0 y4 I5 e6) ht0 rfl rfl ⟨by decide, by decide⟩ ⟨Nat.le_of_ble_eq_true rfl, Nat.le_of_ble_eq_true rfl⟩ (Nat.le_of_ble_eq_true rfl) dX6_past_33) ?_
    exact J_iret (pc := 36) hX (hQ _) dX6_past_36
  · refine J_iload_n (pc := 10) hX 1 rfl dX6_past_10 ?_
    refine J_aload_n (pc := 11) hX 0 rfl dX6_past_11 ?_
    refine g_X6_10 (pc := 12) hX ht0 dX6_past_12 ?_
    refine g_X6_279 (pc := 15) hX (fs_6_0 t0 ht0) dX6_past_15 ?_
    refine J_icmp_ge (pc := 18) hX (tgt := 30) (by decide) dX6_past_18 (fun h7 => ?_) (fun h7 => ?_)
    · refine J_aload_n (pc := 30) hX 0 rfl dX6_past_30 ?_
      refine J_bipush (pc := 31) hX (v := (-52 : Int32)) (by decide) dX6_past_31 ?_
      refine J_call2 (fun y8 I9 e10 => ?_)
      refine jrun_i (pc := 33) (jRunV hX s_X6_51 (ci := 6) (T := TX6) (N := 8) (As := [ji (-52 : Int32)]) (rest := []) rfl (by decide) (C_X6_refuse Y hz0 t0 ht0 (-52 : Int32) I0 L0 y8 I9 e10) ht0 rfl rfl ⟨by decide, by decide⟩ ⟨Nat.le_of_ble_eq_true rfl, Nat.le_of_ble_eq_true rfl⟩ (Nat.le_of_ble_eq_true rfl) dX6_past_33) ?_
      exact J_iret (pc := 36) hX (hQ _) dX6_past_36
    · refine J_iload_n (pc := 21) hX 2 rfl dX6_past_21 ?_
      refine J_iconst (pc := 22) hX (v := (0 : Int32)) (by decide) dX6_past_22 ?_
      refine J_iconst (pc := 23) hX (v := (3 : Int32)) (by decide) dX6_past_23 ?_
      refine J_call1 (fun y11 e12 => ?_)
      refine jrun_i (pc := 24) (jRunS hX s_X6_47 (As := [ji p1, ji (0 : Int32), ji (3 : Int32)]) (rest := []) (C_X6_isWithin Y hz0 p1 (0 : Int32) (3 : Int32) I0 L0 y11 e12) rfl rfl ⟨by decide, by decide⟩ ⟨Nat.le_of_ble_eq_true rfl, Nat.le_of_ble_eq_true rfl⟩ (Nat.le_of_ble_eq_true rfl) dX6_past_24) ?_
      refine J_if_ne (pc := 27) hX (tgt := 37) (by decide) dX6_past_27 (fun h13 => ?_) (fun h13 => ?_)
      · refine J_aload_n (pc := 37) hX 0 rfl dX6_past_37 ?_
        refine g_X6_10 (pc := 38) hX ht0 dX6_past_38 ?_
        refine g_X6_282 (pc := 41) hX (fs_6_0 t0 ht0) dX6_past_41 ?_
        refine J_aload_n (pc := 44) hX 0 rfl dX6_past_44 ?_
        refine g_X6_10 (pc := 45) hX ht0 dX6_past_45 ?_
        refine g_X6_279 (pc := 48) hX (fs_6_0 t0 ht0) dX6_past_48 ?_
        refine J_iload_n (pc := 51) hX 1 rfl dX6_past_51 ?_
        refine J_isub (pc := 52) hX dX6_past_52 ?_
        refine J_iload_n (pc := 53) hX 2 rfl dX6_past_53 ?_
        refine J_call1 (fun y14 e15 => ?_)
        refine jrun_i (pc := 54) (jRunV hX s_X6_286 (ci := 1) (T := TX1) (N := 5) (As := [ji ((I0 (rfC t0 0) 7) - p0), ji p1]) (rest := []) rfl (by decide) (C_X1_tells Y hz0 (rfC (rfC t0 0) 15) (fs_4_15 (rfC t0 0) (fs_6_0 t0 ht0)) ((I0 (rfC t0 0) 7) - p0) p1 I0 L0 y14 e15) (fs_4_15 (rfC t0 0) (fs_6_0 t0 ht0)) rfl rfl ⟨by decide, by decide⟩ ⟨Nat.le_of_ble_eq_true rfl, Nat.le_of_ble_eq_true rfl⟩ (Nat.le_of_ble_eq_true rfl) dX6_past_54) ?_
        exact J_iret (pc := 57) hX (hQ _) dX6_past_57
      · refine J_aload_n (pc := 30) hX 0 rfl dX6_past_30 ?_
        refine J_bipush (pc := 31) hX (v := (-52 : Int32)) (by decide) dX6_past_31 ?_
        refine J_call2 (fun y16 I17 e18 => ?_)
        refine jrun_i (pc := 33) (jRunV hX s_X6_51 (ci := 6) (T := TX6) (N := 8) (As := [ji (-52 : Int32)]) (rest := []) rfl (by decide) (C_X6_refuse Y hz0 t0 ht0 (-52 : Int32) I0 L0 y16 I17 e18) ht0 rfl rfl ⟨by decide, by decide⟩ ⟨Nat.le_of_ble_eq_true rfl, Nat.le_of_ble_eq_true rfl⟩ (Nat.le_of_ble_eq_true rfl) dX6_past_33) ?_
        exact J_iret (pc := 36) hX (hQ _) dX6_past_36
theorem C_X6_past (Y : jY) (hz0 : Y.zf = false) (t0 : Nat) (ht0 : shC t0 = 7) (p0 : Int32) (p1 : Int32) (I0 : jI) (L0 : jL) (r : Int32) (I1 : jI) (h : X6_past t0 p0 p1 I0 = some (r, I1)) : jMet Y yX6_past cX6_past 3 (some .int) 3 125 0 0 [jr t0, ji p0, ji p1] NC shC rfC I0 L0 (some (ji r)) NC shC rfC I1 L0 :=
  jmet_of _ _ h (fun Z r => jQ Y Z 0 0 (some (ji r.1)) NC shC rfC r.2 L0) (fun _ => rfl) (by decide) (Nat.le_of_ble_eq_true rfl) (fun Z hX => W_X6_past hz0 t0 ht0 p0 p1 I0 L0 hX (fun _ => rfl))
def X6_often (t0 : Nat) (p0 : Int32) (I0 : jI) : Option (Int32 × jI) :=
(X6_isPage p0).bind (fun (y1 : Int32) =>
if y1 = 0 then (
jb2 (X6_refuse t0 (-52 : Int32) I0) (fun (y6 : Int32) (I7 : jI) =>
some (y6, I7)))
else (
(X1_timesOf (rfC (rfC t0 0) 15) p0 I0).bind (fun (y4 : Int32) =>
some (y4, I0))))
set_option maxRecDepth 20000 in
set_option maxHeartbeats 4000000 in
theorem W_X6_often {Y : jY} {Z : jZ} {Qf : Int32 × jI → State → Prop} (hz0 : Y.zf = false) (t0 : Nat) (ht0 : shC t0 = 7) (p0 : Int32) (I0 : jI) (L0 : jL) (hX : jOK Y Z RX6 cX6_often 2 "often" (some .int) 3 124 0 0) (hQ : ∀ r : Int32 × jI, Qf r = jQ Y Z 0 0 (some (ji r.1)) NC shC rfC r.2 L0) : J Y Z 2 Qf (X6_often t0 p0 I0) 0 [(0, jr t0), (1, ji p0)] [] 0 0 NC shC rfC I0 L0 := by
  unfold X6_often
  refine J_iload_n (pc := 0) hX 1 rfl dX6_often_0 ?_
  refine J_call1 (fun y1 e2 => ?_)
  refine jrun_i (pc := 1) (jRunS hX s_X6_184 (As := [ji p0]) (rest := []) (C_X6_isPage Y hz0 p0 I0 L0 y1 e2) rfl rfl ⟨by decide, by decide⟩ ⟨Nat.le_of_ble_eq_true rfl, Nat.le_of_ble_eq_true rfl⟩ (Nat.le_of_ble_eq_true rfl) dX6_often_1) ?_
  refine J_if_ne (pc := 4) hX (tgt := 14) (by decide) dX6_often_4 (fun h3 => ?_) (fun h3 => ?_)
  · refine J_aload_n (pc := 14) hX 0 rfl dX6_often_14 ?_
    refine g_X6_10 (pc := 15) hX ht0 dX6_often_15 ?_
    refine g_X6_282 (pc := 18) hX (fs_6_0 t0 ht0) dX6_often_18 ?_
    refine J_iload_n (pc := 21) hX 1 rfl dX6_often_21 ?_
    refine J_call1 (fun y4 e5 => ?_)
    refine jrun_i (pc := 22) (jRunV hX s_X6_290 (ci := 1) (T := TX1) (N := 5) (As := [ji p0]) (rest := []) rfl (by decide) (C_X1_timesOf Y hz0 (rfC (rfC t0 0) 15) (fs_4_15 (rfC t0 0) (fs_6_0 t0 ht0)) p0 I0 L0 y4 e5) (fs_4_15 (rfC t0 0) (fs_6_0 t0 ht0)) rfl rfl ⟨by decide, by decide⟩ ⟨Nat.le_of_ble_eq_true rfl, Nat.le_of_ble_eq_true rfl⟩ (Nat.le_of_ble_eq_true rfl) dX6_often_22) ?_
    exact J_iret (pc := 25) hX (hQ _) dX6_often_25
  · refine J_aload_n (pc := 7) hX 0 rfl dX6_often_7 ?_
    refine J_bipush (pc := 8) hX (v := (-52 : Int32)) (by decide) dX6_often_8 ?_
    refine J_call2 (fun y6 I7 e8 => ?_)
    refine jrun_i (pc := 10) (jRunV hX s_X6_51 (ci := 6) (T := TX6) (N := 8) (As := [ji (-52 : Int32)]) (rest := []) rfl (by decide) (C_X6_refuse Y hz0 t0 ht0 (-52 : Int32) I0 L0 y6 I7 e8) ht0 rfl rfl ⟨by decide, by decide⟩ ⟨Nat.le_of_ble_eq_true rfl, Nat.le_of_ble_eq_true rfl⟩ (Nat.le_of_ble_eq_true rfl) dX6_often_10) ?_
    exact J_iret (pc := 13) hX (hQ _) dX6_often_13
theorem C_X6_often (Y : jY) (hz0 : Y.zf = false) (t0 : Nat) (ht0 : shC t0 = 7) (p0 : Int32) (I0 : jI) (L0 : jL) (r : Int32) (I1 : jI) (h : X6_often t0 p0 I0 = some (r, I1)) : jMet Y yX6_often cX6_often 2 (some .int) 3 124 0 0 [jr t0, ji p0] NC shC rfC I0 L0 (some (ji r)) NC shC rfC I1 L0 :=
  jmet_of _ _ h (fun Z r => jQ Y Z 0 0 (some (ji r.1)) NC shC rfC r.2 L0) (fun _ => rfl) (by decide) (Nat.le_of_ble_eq_true rfl) (fun Z hX => W_X6_often hz0 t0 ht0 p0 I0 L0 hX (fun _ => rfl))
def X6_days_F1 (t0 : Nat) (p0 : Int32) (g7 : Int32 → Int32 → jI → Option (Int32 × jI)) : Int32 → Int32 → jI → Option (Int32 × jI) := fun (v4 : Int32) (v5 : Int32) (I6 : jI) =>
if p0 ≤ v5 then (
some (v4, I6))
else (
jb2 (X0_drawBelow (rfC (rfC t0 0) 14) (4 : Int32) I6) (fun (y9 : Int32) (I10 : jI) =>
jlet (if y9 = 0 then (1 : Int32) else (0 : Int32)) (fun (y13 : Int32) =>
jb2 (X0_drawPage (rfC (rfC t0 0) 14) I10) (fun (y14 : Int32) (I15 : jI) =>
jlet (fun (v17 : Int32) (I18 : jI) =>
jb2 (X4_access (rfC t0 0) y14 y13 v17 I18) (fun (y20 : Int32) (I21 : jI) =>
jlet ((v4 + y20)) (fun (y23 : Int32) =>
g7 y23 (v5 + (1 : Int32)) I21))) (fun (k19 : Int32 → jI → Option (Int32 × jI)) =>
if y13 = 0 then (
k19 (0 : Int32) I15)
else (
jb2 (X0_drawBelow (rfC (rfC t0 0) 14) (100 : Int32) I15) (fun (y25 : Int32) (I26 : jI) =>
k19 y25 I26)))))))
def X6_days (t0 : Nat) (p0 : Int32) (I0 : jI) : Option (Int32 × jI) :=
(X6_isWithin p0 (1 : Int32) (60 : Int32)).bind (fun (y1 : Int32) =>
if y1 = 0 then (
jb2 (X6_refuse t0 (-52 : Int32) I0) (fun (y28 : Int32) (I29 : jI) =>
some (y28, I29)))
else (
jfx (X6_days_F1 t0 p0) (fun _ _ _ => none) 1000 (0 : Int32) (0 : Int32) I0))
set_option maxRecDepth 20000 in
set_option maxHeartbeats 4000000 in
theorem W_X6_days {Y : jY} {Z : jZ} {Qf : Int32 × jI → State → Prop} (hz0 : Y.zf = false) (t0 : Nat) (ht0 : shC t0 = 7) (p0 : Int32) (I0 : jI) (L0 : jL) (hX : jOK Y Z RX6 cX6_days 7 "days" (some .int) 46 2208 0 0) (hQ : ∀ r : Int32 × jI, Qf r = jQ Y Z 0 0 (some (ji r.1)) NC shC rfC r.2 L0) : J Y Z 7 Qf (X6_days t0 p0 I0) 0 [(0, jr t0), (1, ji p0)] [] 0 0 NC shC rfC I0 L0 := by
  unfold X6_days
  refine J_iload_n (pc := 0) hX 1 rfl dX6_days_0 ?_
  refine J_iconst (pc := 1) hX (v := (1 : Int32)) (by decide) dX6_days_1 ?_
  refine J_bipush (pc := 2) hX (v := (60 : Int32)) (by decide) dX6_days_2 ?_
  refine J_call1 (fun y1 e2 => ?_)
  refine jrun_i (pc := 4) (jRunS hX s_X6_47 (As := [ji p0, ji (1 : Int32), ji (60 : Int32)]) (rest := []) (C_X6_isWithin Y hz0 p0 (1 : Int32) (60 : Int32) I0 L0 y1 e2) rfl rfl ⟨by decide, by decide⟩ ⟨Nat.le_of_ble_eq_true rfl, Nat.le_of_ble_eq_true rfl⟩ (Nat.le_of_ble_eq_true rfl) dX6_days_4) ?_
  refine J_if_ne (pc := 7) hX (tgt := 17) (by decide) dX6_days_7 (fun h3 => ?_) (fun h3 => ?_)
  · refine J_iconst (pc := 17) hX (v := (0 : Int32)) (by decide) dX6_days_17 ?_
    refine J_istore_n (pc := 18) hX (lo' := [(2, ji (0 : Int32)), (0, jr t0), (1, ji p0)]) (by decide) rfl dX6_days_18 ?_
    refine J_iconst (pc := 19) hX (v := (0 : Int32)) (by decide) dX6_days_19 ?_
    refine J_istore_n (pc := 20) hX (lo' := [(3, ji (0 : Int32)), (2, ji (0 : Int32)), (0, jr t0), (1, ji p0)]) (by decide) rfl dX6_days_20 ?_
    have lhg7 : ∀ mq : Nat, ∀ (v4 : Int32) (v5 : Int32) (I6 : jI), J Y Z 7 Qf (jfx (X6_days_F1 t0 p0) (fun _ _ _ => none) mq v4 v5 I6) 21 [(0, jr t0), (1, ji p0), (2, ji v4), (3, ji v5)] [] 0 0 NC shC rfC I6 L0 := by
      intro mq
      refine jfx_J (fun (_ : Nat) (g7 : Int32 → Int32 → jI → Option (Int32 × jI)) => ∀ (v4 : Int32) (v5 : Int32) (I6 : jI), J Y Z 7 Qf (g7 v4 v5 I6) 21 [(0, jr t0), (1, ji p0), (2, ji v4), (3, ji v5)] [] 0 0 NC shC rfC I6 L0) ?_ (fun _ g7 hg7 => ?_) mq
      · intro v4 v5 I6
        exact J_none
      intro v4 v5 I6
      unfold X6_days_F1
      try dsimp only
      refine J_iload_n (pc := 21) hX 3 rfl dX6_days_21 ?_
      refine J_iload_n (pc := 22) hX 1 rfl dX6_days_22 ?_
      refine J_icmp_ge (pc := 23) hX (tgt := 104) (by decide) dX6_days_23 (fun h8 => ?_) (fun h8 => ?_)
      · refine J_iload_n (pc := 104) hX 2 rfl dX6_days_104 ?_
        exact J_iret (pc := 105) hX (hQ _) dX6_days_105
      · refine J_aload_n (pc := 26) hX 0 rfl dX6_days_26 ?_
        refine g_X6_10 (pc := 27) hX ht0 dX6_days_27 ?_
        refine g_X6_293 (pc := 30) hX (fs_6_0 t0 ht0) dX6_days_30 ?_
        refine J_iconst (pc := 33) hX (v := (4 : Int32)) (by decide) dX6_days_33 ?_
        refine J_call2 (fun y9 I10 e11 => ?_)
        refine jrun_i (pc := 34) (jRunV hX s_X6_297 (ci := 0) (T := TX0) (N := 2) (As := [ji (4 : Int32)]) (rest := []) rfl (by decide) (C_X0_drawBelow Y hz0 (rfC (rfC t0 0) 14) (fs_4_14 (rfC t0 0) (fs_6_0 t0 ht0)) (4 : Int32) I6 L0 y9 I10 e11) (fs_4_14 (rfC t0 0) (fs_6_0 t0 ht0)) rfl rfl ⟨by decide, by decide⟩ ⟨Nat.le_of_ble_eq_true rfl, Nat.le_of_ble_eq_true rfl⟩ (Nat.le_of_ble_eq_true rfl) dX6_days_34) ?_
        refine J_vjoin (fun kq (y13 : Int32) => J Y Z 7 Qf (kq) 45 [(0, jr t0), (1, ji p0), (2, ji v4), (3, ji v5)] [ji y13] 0 0 NC shC rfC I10 L0) (fun y13 => ?_) (fun hj => ?_)
        · try dsimp only
          refine J_istore (pc := 45) hX (lo' := [(4, ji y13), (0, jr t0), (1, ji p0), (2, ji v4), (3, ji v5)]) (by decide) rfl dX6_days_45 ?_
          refine J_aload_n (pc := 47) hX 1 rfl dX6_days_47 ?_
          refine g_X6_10 (pc := 48) hX ht0 dX6_days_48 ?_
          refine g_X6_293 (pc := 51) hX (fs_6_0 t0 ht0) dX6_days_51 ?_
          refine J_call2 (fun y14 I15 e16 => ?_)
          refine jrun_i (pc := 54) (jRunV hX s_X6_302 (ci := 0) (T := TX0) (N := 2) (As := []) (rest := []) rfl (by decide) (C_X0_drawPage Y hz0 (rfC (rfC t0 0) 14) (fs_4_14 (rfC t0 0) (fs_6_0 t0 ht0)) I10 L0 y14 I15 e16) (fs_4_14 (rfC t0 0) (fs_6_0 t0 ht0)) rfl rfl ⟨by decide, by decide⟩ ⟨Nat.le_of_ble_eq_true rfl, Nat.le_of_ble_eq_true rfl⟩ (Nat.le_of_ble_eq_true rfl) dX6_days_54) ?_
          refine J_istore (pc := 57) hX (lo' := [(5, ji y14), (4, ji y13), (0, jr t0), (1, ji p0), (2, ji v4), (3, ji v5)]) (by decide) rfl dX6_days_57 ?_
          refine J_iload (pc := 59) hX 1 rfl dX6_days_59 ?_
          refine J_join (fun (k19 : Int32 → jI → Option (Int32 × jI)) => ∀ (v17 : Int32) (I18 : jI), J Y Z 7 Qf (k19 v17 I18) 80 [(0, jr t0), (1, ji p0), (2, ji v4), (3, ji v5), (4, ji y13), (5, ji y14)] [ji v17] 0 0 NC shC rfC I18 L0) ?_ (fun k19 hk19 => ?_)
          · intro v17 I18
            try dsimp only
            refine J_istore (pc := 80) hX (lo' := [(6, ji v17), (0, jr t0), (1, ji p0), (2, ji v4), (3, ji v5), (4, ji y13), (5, ji y14)]) (by decide) rfl dX6_days_80 ?_
            refine J_iload_n (pc := 82) hX 3 rfl dX6_days_82 ?_
            refine J_aload_n (pc := 83) hX 1 rfl dX6_days_83 ?_
            refine g_X6_10 (pc := 84) hX ht0 dX6_days_84 ?_
            refine J_iload (pc := 87) hX 6 rfl dX6_days_87 ?_
            refine J_iload (pc := 89) hX 5 rfl dX6_days_89 ?_
            refine J_iload (pc := 91) hX 0 rfl dX6_days_91 ?_
            refine J_call2 (fun y20 I21 e22 => ?_)
            refine jrun_i (pc := 93) (jRunV hX s_X6_152 (ci := 4) (T := TX4) (N := 18) (As := [ji y14, ji y13, ji v17]) (rest := [ji v4]) rfl (by decide) (C_X4_access Y hz0 (rfC t0 0) (fs_6_0 t0 ht0) y14 y13 v17 I18 L0 y20 I21 e22) (fs_6_0 t0 ht0) rfl rfl ⟨by decide, by decide⟩ ⟨Nat.le_of_ble_eq_true rfl, Nat.le_of_ble_eq_true rfl⟩ (Nat.le_of_ble_eq_true rfl) dX6_days_93) ?_
            refine J_iadd (pc := 96) hX dX6_days_96 ?_
            refine J_leti (fun y23 => ?_)
            refine J_istore_n (pc := 97) hX (lo' := [(2, ji y23), (6, ji v17), (0, jr t0), (1, ji p0), (3, ji v5), (4, ji y13), (5, ji y14)]) (by decide) rfl dX6_days_97 ?_
            refine J_iinc (pc := 98) hX (v := (v5 + (1 : Int32))) (lo' := [(3, ji (v5 + (1 : Int32))), (2, ji y23), (6, ji v17), (0, jr t0), (1, ji p0), (4, ji y13), (5, ji y14)]) 4 rfl (by rfl) (by decide) rfl dX6_days_98 ?_
            refine J_goto (pc := 101) hX (tgt := 21) (by decide) dX6_days_101 ?_
            refine J_sub [3, 4, 1, 0] rfl ?_
            exact hg7 y23 (v5 + (1 : Int32)) I21
          refine J_if_eq (pc := 61) hX (tgt := 79) (by decide) dX6_days_61 (fun h24 => ?_) (fun h24 => ?_)
          · refine J_iconst (pc := 79) hX (v := (0 : Int32)) (by decide) dX6_days_79 ?_
            refine J_sub [2, 3, 4, 5, 1, 0] rfl ?_
            exact hk19 (0 : Int32) I15
          · refine J_aload_n (pc := 64) hX 2 rfl dX6_days_64 ?_
            refine g_X6_10 (pc := 65) hX ht0 dX6_days_65 ?_
            refine g_X6_293 (pc := 68) hX (fs_6_0 t0 ht0) dX6_days_68 ?_
            refine J_bipush (pc := 71) hX (v := (100 : Int32)) (by decide) dX6_days_71 ?_
            refine J_call2 (fun y25 I26 e27 => ?_)
            refine jrun_i (pc := 73) (jRunV hX s_X6_297 (ci := 0) (T := TX0) (N := 2) (As := [ji (100 : Int32)]) (rest := []) rfl (by decide) (C_X0_drawBelow Y hz0 (rfC (rfC t0 0) 14) (fs_4_14 (rfC t0 0) (fs_6_0 t0 ht0)) (100 : Int32) I15 L0 y25 I26 e27) (fs_4_14 (rfC t0 0) (fs_6_0 t0 ht0)) rfl rfl ⟨by decide, by decide⟩ ⟨Nat.le_of_ble_eq_true rfl, Nat.le_of_ble_eq_true rfl⟩ (Nat.le_of_ble_eq_true rfl) dX6_days_73) ?_
            refine J_goto (pc := 76) hX (tgt := 80) (by decide) dX6_days_76 ?_
            refine J_sub [2, 3, 4, 5, 1, 0] rfl ?_
            exact hk19 y25 I26
        try dsimp only at hj
        refine J_if_neV (pc := 37) hX (tgt := 44) (by decide) dX6_days_37 (fun h12 => ?_) (fun h12 => ?_)
        · refine J_iconst (pc := 44) hX (v := (0 : Int32)) (by decide) dX6_days_44 ?_
          exact hj _
        · refine J_iconst (pc := 40) hX (v := (1 : Int32)) (by decide) dX6_days_40 ?_
          refine J_goto (pc := 41) hX (tgt := 45) (by decide) dX6_days_41 ?_
          exact hj _
    refine J_sub [2, 3, 1, 0] rfl ?_
    exact lhg7 1000 (0 : Int32) (0 : Int32) I0
  · refine J_aload_n (pc := 10) hX 0 rfl dX6_days_10 ?_
    refine J_bipush (pc := 11) hX (v := (-52 : Int32)) (by decide) dX6_days_11 ?_
    refine J_call2 (fun y28 I29 e30 => ?_)
    refine jrun_i (pc := 13) (jRunV hX s_X6_51 (ci := 6) (T := TX6) (N := 8) (As := [ji (-52 : Int32)]) (rest := []) rfl (by decide) (C_X6_refuse Y hz0 t0 ht0 (-52 : Int32) I0 L0 y28 I29 e30) ht0 rfl rfl ⟨by decide, by decide⟩ ⟨Nat.le_of_ble_eq_true rfl, Nat.le_of_ble_eq_true rfl⟩ (Nat.le_of_ble_eq_true rfl) dX6_days_13) ?_
    exact J_iret (pc := 16) hX (hQ _) dX6_days_16
theorem C_X6_days (Y : jY) (hz0 : Y.zf = false) (t0 : Nat) (ht0 : shC t0 = 7) (p0 : Int32) (I0 : jI) (L0 : jL) (r : Int32) (I1 : jI) (h : X6_days t0 p0 I0 = some (r, I1)) : jMet Y yX6_days cX6_days 7 (some .int) 46 2208 0 0 [jr t0, ji p0] NC shC rfC I0 L0 (some (ji r)) NC shC rfC I1 L0 :=
  jmet_of _ _ h (fun Z r => jQ Y Z 0 0 (some (ji r.1)) NC shC rfC r.2 L0) (fun _ => rfl) (by decide) (Nat.le_of_ble_eq_true rfl) (fun Z hX => W_X6_days hz0 t0 ht0 p0 I0 L0 hX (fun _ => rfl))
def X6_seed (t0 : Nat) (p0 : Int32) (I0 : jI) : Option (Int32 × jI) :=
jlet ((I0 (rfC (rfC t0 0) 14) 0)) (fun (y1 : Int32) =>
jlet (jup I0 (rfC (rfC t0 0) 14) 0 p0) (fun (I2 : jI) =>
some (y1, I2)))
set_option maxRecDepth 20000 in
set_option maxHeartbeats 4000000 in
theorem W_X6_seed {Y : jY} {Z : jZ} {Qf : Int32 × jI → State → Prop} (hz0 : Y.zf = false) (t0 : Nat) (ht0 : shC t0 = 7) (p0 : Int32) (I0 : jI) (L0 : jL) (hX : jOK Y Z RX6 cX6_seed 3 "seed" (some .int) 1 80 0 0) (hQ : ∀ r : Int32 × jI, Qf r = jQ Y Z 0 0 (some (ji r.1)) NC shC rfC r.2 L0) : J Y Z 3 Qf (X6_seed t0 p0 I0) 0 [(0, jr t0), (1, ji p0)] [] 0 0 NC shC rfC I0 L0 := by
  unfold X6_seed
  refine J_aload_n (pc := 0) hX 0 rfl dX6_seed_0 ?_
  refine g_X6_10 (pc := 1) hX ht0 dX6_seed_1 ?_
  refine g_X6_293 (pc := 4) hX (fs_6_0 t0 ht0) dX6_seed_4 ?_
  refine g_X6_305 (pc := 7) hX (fs_4_14 (rfC t0 0) (fs_6_0 t0 ht0)) dX6_seed_7 ?_
  refine J_leti (fun y1 => ?_)
  refine J_istore_n (pc := 10) hX (lo' := [(2, ji y1), (0, jr t0), (1, ji p0)]) (by decide) rfl dX6_seed_10 ?_
  refine J_aload_n (pc := 11) hX 1 rfl dX6_seed_11 ?_
  refine g_X6_10 (pc := 12) hX ht0 dX6_seed_12 ?_
  refine g_X6_293 (pc := 15) hX (fs_6_0 t0 ht0) dX6_seed_15 ?_
  refine J_iload_n (pc := 18) hX 2 rfl dX6_seed_18 ?_
  refine p_X6_305 (pc := 19) hX (fs_4_14 (rfC t0 0) (fs_6_0 t0 ht0)) dX6_seed_19 (fun I2 => ?_)
  refine J_iload_n (pc := 22) hX 0 rfl dX6_seed_22 ?_
  exact J_iret (pc := 23) hX (hQ _) dX6_seed_23
theorem C_X6_seed (Y : jY) (hz0 : Y.zf = false) (t0 : Nat) (ht0 : shC t0 = 7) (p0 : Int32) (I0 : jI) (L0 : jL) (r : Int32) (I1 : jI) (h : X6_seed t0 p0 I0 = some (r, I1)) : jMet Y yX6_seed cX6_seed 3 (some .int) 1 80 0 0 [jr t0, ji p0] NC shC rfC I0 L0 (some (ji r)) NC shC rfC I1 L0 :=
  jmet_of _ _ h (fun Z r => jQ Y Z 0 0 (some (ji r.1)) NC shC rfC r.2 L0) (fun _ => rfl) (by decide) (Nat.le_of_ble_eq_true rfl) (fun Z hX => W_X6_seed hz0 t0 ht0 p0 I0 L0 hX (fun _ => rfl))
def X6_image (t0 : Nat) (I0 : jI) : Option (Int32 × jI) :=
(X4_takeFrom (rfC t0 2) (rfC t0 0) I0).bind (fun (I1 : jI) =>
jlet (jup I1 t0 3 (1 : Int32)) (fun (I3 : jI) =>
some ((1 : Int32), I3)))
set_option maxRecDepth 20000 in
set_option maxHeartbeats 4000000 in
theorem W_X6_image {Y : jY} {Z : jZ} {Qf : Int32 × jI → State → Prop} (hz0 : Y.zf = false) (t0 : Nat) (ht0 : shC t0 = 7) (I0 : jI) (L0 : jL) (hX : jOK Y Z RX6 cX6_image 1 "image" (some .int) 3 126 0 0) (hQ : ∀ r : Int32 × jI, Qf r = jQ Y Z 0 0 (some (ji r.1)) NC shC rfC r.2 L0) : J Y Z 1 Qf (X6_image t0 I0) 0 [(0, jr t0)] [] 0 0 NC shC rfC I0 L0 := by
  unfold X6_image
  refine J_aload_n (pc := 0) hX 0 rfl dX6_image_0 ?_
  refine g_X6_19 (pc := 1) hX ht0 dX6_image_1 ?_
  refine J_aload_n (pc := 4) hX 0 rfl dX6_image_4 ?_
  refine g_X6_10 (pc := 5) hX ht0 dX6_image_5 ?_
  refine J_call1 (fun I1 e2 => ?_)
  refine jrun_v (pc := 8) (jRunV hX s_X6_227 (ci := 4) (T := TX4) (N := 18) (As := [jr (rfC t0 0)]) (rest := []) rfl (by decide) (C_X4_takeFrom Y hz0 (rfC t0 2) (fs_6_2 t0 ht0) (rfC t0 0) (fs_6_0 t0 ht0) I0 L0 I1 e2) (fs_6_2 t0 ht0) rfl rfl ⟨by decide, by decide⟩ ⟨Nat.le_of_ble_eq_true rfl, Nat.le_of_ble_eq_true rfl⟩ (Nat.le_of_ble_eq_true rfl) dX6_image_8) ?_
  refine J_aload_n (pc := 11) hX 0 rfl dX6_image_11 ?_
  refine J_iconst (pc := 12) hX (v := (1 : Int32)) (by decide) dX6_image_12 ?_
  refine p_X6_308 (pc := 13) hX ht0 (by decide) dX6_image_13 (fun I3 => ?_)
  refine J_iconst (pc := 16) hX (v := (1 : Int32)) (by decide) dX6_image_16 ?_
  exact J_iret (pc := 17) hX (hQ _) dX6_image_17
theorem C_X6_image (Y : jY) (hz0 : Y.zf = false) (t0 : Nat) (ht0 : shC t0 = 7) (I0 : jI) (L0 : jL) (r : Int32) (I1 : jI) (h : X6_image t0 I0 = some (r, I1)) : jMet Y yX6_image cX6_image 1 (some .int) 3 126 0 0 [jr t0] NC shC rfC I0 L0 (some (ji r)) NC shC rfC I1 L0 :=
  jmet_of _ _ h (fun Z r => jQ Y Z 0 0 (some (ji r.1)) NC shC rfC r.2 L0) (fun _ => rfl) (by decide) (Nat.le_of_ble_eq_true rfl) (fun Z hX => W_X6_image hz0 t0 ht0 I0 L0 hX (fun _ => rfl))
def X6_back (t0 : Nat) (I0 : jI) : Option (Int32 × jI) :=
if (I0 t0 3) = 0 then (
jb2 (X6_refuse t0 (-55 : Int32) I0) (fun (y6 : Int32) (I7 : jI) =>
some (y6, I7)))
else (
(X4_takeFrom (rfC t0 0) (rfC t0 2) I0).bind (fun (I2 : jI) =>
(X6_forgetRules t0 I2).bind (fun (I4 : jI) =>
some ((1 : Int32), I4))))
set_option maxRecDepth 20000 in
set_option maxHeartbeats 4000000 in
theorem W_X6_back {Y : jY} {Z : jZ} {Qf : Int32 × jI → State → Prop} (hz0 : Y.zf = false) (t0 : Nat) (ht0 : shC t0 = 7) (I0 : jI) (L0 : jL) (hX : jOK Y Z RX6 cX6_back 1 "back" (some .int) 4 145 0 0) (hQ : ∀ r : Int32 × jI, Qf r = jQ Y Z 0 0 (some (ji r.1)) NC shC rfC r.2 L0) : J Y Z 1 Qf (X6_back t0 I0) 0 [(0, jr t0)] [] 0 0 NC shC rfC I0 L0 := by
  unfold X6_back
  refine J_aload_n (pc := 0) hX 0 rfl dX6_back_0 ?_
  refine g_X6_308 (pc := 1) hX ht0 dX6_back_1 ?_
  refine J_if_ne (pc := 4) hX (tgt := 14) (by decide) dX6_back_4 (fun h1 => ?_) (fun h1 => ?_)
  · refine J_aload_n (pc := 14) hX 0 rfl dX6_back_14 ?_
    refine g_X6_10 (pc := 15) hX ht0 dX6_back_15 ?_
    refine J_aload_n (pc := 18) hX 0 rfl dX6_back_18 ?_
    refine g_X6_19 (pc := 19) hX ht0 dX6_back_19 ?_
    refine J_call1 (fun I2 e3 => ?_)
    refine jrun_v (pc := 22) (jRunV hX s_X6_227 (ci := 4) (T := TX4) (N := 18) (As := [jr (rfC t0 2)]) (rest := []) rfl (by decide) (C_X4_takeFrom Y hz0 (rfC t0 0) (fs_6_0 t0 ht0) (rfC t0 2) (fs_6_2 t0 ht0) I0 L0 I2 e3) (fs_6_0 t0 ht0) rfl rfl ⟨by decide, by decide⟩ ⟨Nat.le_of_ble_eq_true rfl, Nat.le_of_ble_eq_true rfl⟩ (Nat.le_of_ble_eq_true rfl) dX6_back_22) ?_
    refine J_aload_n (pc := 25) hX 0 rfl dX6_back_25 ?_
    refine J_call1 (fun I4 e5 => ?_)
    refine jrun_v (pc := 26) (jRunV hX s_X6_172 (ci := 6) (T := TX6) (N := 8) (As := []) (rest := []) rfl (by decide) (C_X6_forgetRules Y hz0 t0 ht0 I2 L0 I4 e5) ht0 rfl rfl ⟨by decide, by decide⟩ ⟨Nat.le_of_ble_eq_true rfl, Nat.le_of_ble_eq_true rfl⟩ (Nat.le_of_ble_eq_true rfl) dX6_back_26) ?_
    refine J_iconst (pc := 29) hX (v := (1 : Int32)) (by decide) dX6_back_29 ?_
    exact J_iret (pc := 30) hX (hQ _) dX6_back_30
  · refine J_aload_n (pc := 7) hX 0 rfl dX6_back_7 ?_
    refine J_bipush (pc := 8) hX (v := (-55 : Int32)) (by decide) dX6_back_8 ?_
    refine J_call2 (fun y6 I7 e8 => ?_)
    refine jrun_i (pc := 10) (jRunV hX s_X6_51 (ci := 6) (T := TX6) (N := 8) (As := [ji (-55 : Int32)]) (rest := []) rfl (by decide) (C_X6_refuse Y hz0 t0 ht0 (-55 : Int32) I0 L0 y6 I7 e8) ht0 rfl rfl ⟨by decide, by decide⟩ ⟨Nat.le_of_ble_eq_true rfl, Nat.le_of_ble_eq_true rfl⟩ (Nat.le_of_ble_eq_true rfl) dX6_back_10) ?_
    exact J_iret (pc := 13) hX (hQ _) dX6_back_13
theorem C_X6_back (Y : jY) (hz0 : Y.zf = false) (t0 : Nat) (ht0 : shC t0 = 7) (I0 : jI) (L0 : jL) (r : Int32) (I1 : jI) (h : X6_back t0 I0 = some (r, I1)) : jMet Y yX6_back cX6_back 1 (some .int) 4 145 0 0 [jr t0] NC shC rfC I0 L0 (some (ji r)) NC shC rfC I1 L0 :=
  jmet_of _ _ h (fun Z r => jQ Y Z 0 0 (some (ji r.1)) NC shC rfC r.2 L0) (fun _ => rfl) (by decide) (Nat.le_of_ble_eq_true rfl) (fun Z hX => W_X6_back hz0 t0 ht0 I0 L0 hX (fun _ => rfl))
def X6_fullShelves_F1 (t0 : Nat) (I0 : jI) (g3 : Int32 → Int32 → Option (Int32)) : Int32 → Int32 → Option (Int32) := fun (v1 : Int32) (v2 : Int32) =>
if (8 : Int32) ≤ v2 then (
some v1)
else (
(X6_holds t0 v2 I0).bind (fun (y5 : Int32) =>
jlet (if y5 = (-1 : Int32) then (0 : Int32) else (1 : Int32)) (fun (y8 : Int32) =>
jlet ((v1 + y8)) (fun (y9 : Int32) =>
g3 y9 (v2 + (1 : Int32))))))
def X6_fullShelves (t0 : Nat) (I0 : jI) : Option (Int32) :=
jfx (X6_fullShelves_F1 t0 I0) (fun _ _ => none) 1000 (0 : Int32) (0 : Int32)
set_option maxRecDepth 20000 in
set_option maxHeartbeats 4000000 in
theorem W_X6_fullShelves {Y : jY} {Z : jZ} {Qf : Int32 → State → Prop} (hz0 : Y.zf = false) (t0 : Nat) (ht0 : shC t0 = 7) (I0 : jI) (L0 : jL) (hX : jOK Y Z RX6 cX6_fullShelves 3 "fullShelves" (some .int) 4 145 0 0) (hQ : ∀ r : Int32, Qf r = jQ Y Z 0 0 (some (ji r)) NC shC rfC I0 L0) : J Y Z 3 Qf (X6_fullShelves t0 I0) 0 [(0, jr t0)] [] 0 0 NC shC rfC I0 L0 := by
  unfold X6_fullShelves
  refine J_iconst (pc := 0) hX (v := (0 : Int32)) (by decide) dX6_fullShelves_0 ?_
  refine J_istore_n (pc := 1) hX (lo' := [(1, ji (0 : Int32)), (0, jr t0)]) (by decide) rfl dX6_fullShelves_1 ?_
  refine J_iconst (pc := 2) hX (v := (0 : Int32)) (by decide) dX6_fullShelves_2 ?_
  refine J_istore_n (pc := 3) hX (lo' := [(2, ji (0 : Int32)), (1, ji (0 : Int32)), (0, jr t0)]) (by decide) rfl dX6_fullShelves_3 ?_
  have lhg3 : ∀ mq : Nat, ∀ (v1 : Int32) (v2 : Int32), J Y Z 3 Qf (jfx (X6_fullShelves_F1 t0 I0) (fun _ _ => none) mq v1 v2) 4 [(0, jr t0), (1, ji v1), (2, ji v2)] [] 0 0 NC shC rfC I0 L0 := by
    intro mq
    refine jfx_J (fun (_ : Nat) (g3 : Int32 → Int32 → Option (Int32)) => ∀ (v1 : Int32) (v2 : Int32), J Y Z 3 Qf (g3 v1 v2) 4 [(0, jr t0), (1, ji v1), (2, ji v2)] [] 0 0 NC shC rfC I0 L0) ?_ (fun _ g3 hg3 => ?_) mq
    · intro v1 v2
      exact J_none
    intro v1 v2
    unfold X6_fullShelves_F1
    try dsimp only
    refine J_iload_n (pc := 4) hX 2 rfl dX6_fullShelves_4 ?_
    refine J_bipush (pc := 5) hX (v := (8 : Int32)) (by decide) dX6_fullShelves_5 ?_
    refine J_icmp_ge (pc := 7) hX (tgt := 33) (by decide) dX6_fullShelves_7 (fun h4 => ?_) (fun h4 => ?_)
    · refine J_iload_n (pc := 33) hX 1 rfl dX6_fullShelves_33 ?_
      exact J_iret (pc := 34) hX (hQ _) dX6_fullShelves_34
    · refine J_iload_n (pc := 10) hX 1 rfl dX6_fullShelves_10 ?_
      refine J_aload_n (pc := 11) hX 0 rfl dX6_fullShelves_11 ?_
      refine J_iload_n (pc := 12) hX 2 rfl dX6_fullShelves_12 ?_
      refine J_call1 (fun y5 e6 => ?_)
      refine jrun_i (pc := 13) (jRunV hX s_X6_327 (ci := 6) (T := TX6) (N := 8) (As := [ji v2]) (rest := [ji v1]) rfl (by decide) (C_X6_holds Y hz0 t0 ht0 v2 I0 L0 y5 e6) ht0 rfl rfl ⟨by decide, by decide⟩ ⟨Nat.le_of_ble_eq_true rfl, Nat.le_of_ble_eq_true rfl⟩ (Nat.le_of_ble_eq_true rfl) dX6_fullShelves_13) ?_
      refine J_iconst (pc := 16) hX (v := (-1 : Int32)) (by decide) dX6_fullShelves_16 ?_
      refine J_vjoin (fun kq (y8 : Int32) => J Y Z 3 Qf (kq) 25 [(0, jr t0), (1, ji v1), (2, ji v2)] [ji y8, ji v1] 0 0 NC shC rfC I0 L0) (fun y8 => ?_) (fun hj => ?_)
      · try dsimp only
        refine J_iadd (pc := 25) hX dX6_fullShelves_25 ?_
        refine J_leti (fun y9 => ?_)
        refine J_istore_n (pc := 26) hX (lo' := [(1, ji y9), (0, jr t0), (2, ji v2)]) (by decide) rfl dX6_fullShelves_26 ?_
        refine J_iinc (pc := 27) hX (v := (v2 + (1 : Int32))) (lo' := [(2, ji (v2 + (1 : Int32))), (1, ji y9), (0, jr t0)]) 2 rfl (by rfl) (by decide) rfl dX6_fullShelves_27 ?_
        refine J_goto (pc := 30) hX (tgt := 4) (by decide) dX6_fullShelves_30 ?_
        refine J_sub [2, 1, 0] rfl ?_
        exact hg3 y9 (v2 + (1 : Int32))
      try dsimp only at hj
      refine J_icmp_neV (pc := 17) hX (tgt := 24) (by decide) dX6_fullShelves_17 (fun h7 => ?_) (fun h7 => ?_)
      · refine J_iconst (pc := 24) hX (v := (1 : Int32)) (by decide) dX6_fullShelves_24 ?_
        exact hj _
      · refine J_iconst (pc := 20) hX (v := (0 : Int32)) (by decide) dX6_fullShelves_20 ?_
        refine J_goto (pc := 21) hX (tgt := 25) (by decide) dX6_fullShelves_21 ?_
        exact hj _
  refine J_sub [2, 1, 0] rfl ?_
  exact lhg3 1000 (0 : Int32) (0 : Int32)
theorem C_X6_fullShelves (Y : jY) (hz0 : Y.zf = false) (t0 : Nat) (ht0 : shC t0 = 7) (I0 : jI) (L0 : jL) (r : Int32) (h : X6_fullShelves t0 I0 = some r) : jMet Y yX6_fullShelves cX6_fullShelves 3 (some .int) 4 145 0 0 [jr t0] NC shC rfC I0 L0 (some (ji r)) NC shC rfC I0 L0 :=
  jmet_of _ _ h (fun Z r => jQ Y Z 0 0 (some (ji r)) NC shC rfC I0 L0) (fun _ => rfl) (by decide) (Nat.le_of_ble_eq_true rfl) (fun Z hX => W_X6_fullShelves hz0 t0 ht0 I0 L0 hX (fun _ => rfl))
def X6_status (t0 : Nat) (p0 : Int32) (I0 : jI) : Option (Int32) :=
jlet ((p0 - (12 : Int32))) (fun (y1 : Int32) =>
(X6_isWithin y1 (0 : Int32) ((5 : Int32) - (1 : Int32))).bind (fun (y2 : Int32) =>
if y2 = 0 then (
if p0 = (0 : Int32) then (
some (I0 (rfC t0 0) 1))
else if p0 = (1 : Int32) then (
some (I0 (rfC t0 0) 4))
else if p0 = (2 : Int32) then (
some (I0 (rfC t0 0) 5))
else if p0 = (3 : Int32) then (
some (I0 (rfC t0 0) 6))
else if p0 = (4 : Int32) then (
some (I0 (rfC t0 0) 3))
else if p0 = (5 : Int32) then (
some (I0 (rfC t0 0) 7))
else if p0 = (6 : Int32) then (
some (I0 (rfC t0 0) 8))
else if p0 = (7 : Int32) then (
some (I0 (rfC t0 0) 10))
else if p0 = (8 : Int32) then (
some (I0 (rfC t0 0) 11))
else if p0 = (9 : Int32) then (
some (I0 (rfC t0 0) 12))
else if p0 = (10 : Int32) then (
some (I0 (rfC t0 4) 0))
else if p0 = (11 : Int32) then (
some (I0 (rfC (rfC t0 0) 14) 0))
else if p0 = (12 : Int32) then (
some (-1 : Int32))
else if p0 = (13 : Int32) then (
some (-1 : Int32))
else if p0 = (14 : Int32) then (
some (-1 : Int32))
else if p0 = (15 : Int32) then (
some (-1 : Int32))
else if p0 = (16 : Int32) then (
some (-1 : Int32))
else if p0 = (17 : Int32) then (
(X6_fullShelves t0 I0).bind (fun (y23 : Int32) =>
some y23))
else (
some (-1 : Int32)))
else (
if jin y1 5 then (
some (I0 (rfC t0 6) (y1).toNatClampNeg)) else none)))
set_option maxRecDepth 20000 in
set_option maxHeartbeats 4000000 in
theorem W_X6_status {Y : jY} {Z : jZ} {Qf : Int32 → State → Prop} (hz0 : Y.zf = false) (t0 : Nat) (ht0 : shC t0 = 7) (p0 : Int32) (I0 : jI) (L0 : jL) (hX : jOK Y Z RX6 cX6_status 3 "status" (some .int) 5 167 0 0) (hQ : ∀ r : Int32, Qf r = jQ Y Z 0 0 (some (ji r)) NC shC rfC I0 L0) : J Y Z 3 Qf (X6_status t0 p0 I0) 0 [(0, jr t0), (1, ji p0)] [] 0 0 NC shC rfC I0 L0 := by
  unfold X6_status
  refine J_iload_n (pc := 0) hX 1 rfl dX6_status_0 ?_
  refine J_bipush (pc := 1) hX (v := (12 : Int32)) (by decide) dX6_status_1 ?_
  refine J_isub (pc := 3) hX dX6_status_3 ?_
  refine J_leti (fun y1 => ?_)
  refine J_istore_n (pc := 4) hX (lo' := [(2, ji y1), (0, jr t0), (1, ji p0)]) (by decide) rfl dX6_status_4 ?_
  refine J_iload_n (pc := 5) hX 0 rfl dX6_status_5 ?_
  refine J_iconst (pc := 6) hX (v := (0 : Int32)) (by decide) dX6_status_6 ?_
  refine J_aload_n (pc := 7) hX 1 rfl dX6_status_7 ?_
  refine g_X6_35 (pc := 8) hX ht0 dX6_status_8 ?_
  refine J_alen (pc := 11) hX (v := (5 : Int32)) (fs_6_6 t0 ht0) (by decide) dX6_status_11 ?_
  refine J_iconst (pc := 12) hX (v := (1 : Int32)) (by decide) dX6_status_12 ?_
  refine J_isub (pc := 13) hX dX6_status_13 ?_
  refine J_call1 (fun y2 e3 => ?_)
  refine jrun_i (pc := 14) (jRunS hX s_X6_47 (As := [ji y1, ji (0 : Int32), ji ((5 : Int32) - (1 : Int32))]) (rest := []) (C_X6_isWithin Y hz0 y1 (0 : Int32) ((5 : Int32) - (1 : Int32)) I0 L0 y2 e3) rfl rfl ⟨by decide, by decide⟩ ⟨Nat.le_of_ble_eq_true rfl, Nat.le_of_ble_eq_true rfl⟩ (Nat.le_of_ble_eq_true rfl) dX6_status_14) ?_
  refine J_if_eq (pc := 17) hX (tgt := 27) (by decide) dX6_status_17 (fun h4 => ?_) (fun h4 => ?_)
  · refine J_iload_n (pc := 27) hX 2 rfl dX6_status_27 ?_
    refine J_swc (0 : Int32) (fun h5 => ?_) (fun h5 => ?_)
    · refine J_swIn (pc := 28) hX (tgt := 116) (off := 88) (0 : Int32) h5 (by decide) (by decide) rfl (by decide) dX6_status_28 ?_
      refine J_aload_n (pc := 116) hX 1 rfl dX6_status_116 ?_
      refine g_X6_10 (pc := 117) hX ht0 dX6_status_117 ?_
      refine g_X6_103 (pc := 120) hX (fs_6_0 t0 ht0) dX6_status_120 ?_
      exact J_iret (pc := 123) hX (hQ _) dX6_status_123
    refine J_swc (1 : Int32) (fun h6 => ?_) (fun h6 => ?_)
    · refine J_swIn (pc := 28) hX (tgt := 124) (off := 96) (1 : Int32) h6 (by decide) (by decide) rfl (by decide) dX6_status_28 ?_
      refine J_aload_n (pc := 124) hX 1 rfl dX6_status_124 ?_
      refine g_X6_10 (pc := 125) hX ht0 dX6_status_125 ?_
      refine g_X6_175 (pc := 128) hX (fs_6_0 t0 ht0) dX6_status_128 ?_
      exact J_iret (pc := 131) hX (hQ _) dX6_status_131
    refine J_swc (2 : Int32) (fun h7 => ?_) (fun h7 => ?_)
    · refine J_swIn (pc := 28) hX (tgt := 132) (off := 104) (2 : Int32) h7 (by decide) (by decide) rfl (by decide) dX6_status_28 ?_
      refine J_aload_n (pc := 132) hX 1 rfl dX6_status_132 ?_
      refine g_X6_10 (pc := 133) hX ht0 dX6_status_133 ?_
      refine g_X6_178 (pc := 136) hX (fs_6_0 t0 ht0) dX6_status_136 ?_
      exact J_iret (pc := 139) hX (hQ _) dX6_status_139
    refine J_swc (3 : Int32) (fun h8 => ?_) (fun h8 => ?_)
    · refine J_swIn (pc := 28) hX (tgt := 140) (off := 112) (3 : Int32) h8 (by decide) (by decide) rfl (by decide) dX6_status_28 ?_
      refine J_aload_n (pc := 140) hX 1 rfl dX6_status_140 ?_
      refine g_X6_10 (pc := 141) hX ht0 dX6_status_141 ?_
      refine g_X6_162 (pc := 144) hX (fs_6_0 t0 ht0) dX6_status_144 ?_
      exact J_iret (pc := 147) hX (hQ _) dX6_status_147
    refine J_swc (4 : Int32) (fun h9 => ?_) (fun h9 => ?_)
    · refine J_swIn (pc := 28) hX (tgt := 148) (off := 120) (4 : Int32) h9 (by decide) (by decide) rfl (by decide) dX6_status_28 ?_
      refine J_aload_n (pc := 148) hX 1 rfl dX6_status_148 ?_
      refine g_X6_10 (pc := 149) hX ht0 dX6_status_149 ?_
      refine g_X6_181 (pc := 152) hX (fs_6_0 t0 ht0) dX6_status_152 ?_
      exact J_iret (pc := 155) hX (hQ _) dX6_status_155
    refine J_swc (5 : Int32) (fun h10 => ?_) (fun h10 => ?_)
    · refine J_swIn (pc := 28) hX (tgt := 156) (off := 128) (5 : Int32) h10 (by decide) (by decide) rfl (by decide) dX6_status_28 ?_
      refine J_aload_n (pc := 156) hX 1 rfl dX6_status_156 ?_
      refine g_X6_10 (pc := 157) hX ht0 dX6_status_157 ?_
      refine g_X6_279 (pc := 160) hX (fs_6_0 t0 ht0) dX6_status_160 ?_
      exact J_iret (pc := 163) hX (hQ _) dX6_status_163
    refine J_swc (6 : Int32) (fun h11 => ?_) (fun h11 => ?_)
    · refine J_swIn (pc := 28) hX (tgt := 164) (off := 136) (6 : Int32) h11 (by decide) (by decide) rfl (by decide) dX6_status_28 ?_
      refine J_aload_n (pc := 164) hX 1 rfl dX6_status_164 ?_
      refine g_X6_10 (pc := 165) hX ht0 dX6_status_165 ?_
      refine g_X6_312 (pc := 168) hX (fs_6_0 t0 ht0) dX6_status_168 ?_
      exact J_iret (pc := 171) hX (hQ _) dX6_status_171
    refine J_swc (7 : Int32) (fun h12 => ?_) (fun h12 => ?_)
    · refine J_swIn (pc := 28) hX (tgt := 172) (off := 144) (7 : Int32) h12 (by decide) (by decide) rfl (by decide) dX6_status_28 ?_
      refine J_aload_n (pc := 172) hX 1 rfl dX6_status_172 ?_
      refine g_X6_10 (pc := 173) hX ht0 dX6_status_173 ?_
      refine g_X6_235 (pc := 176) hX (fs_6_0 t0 ht0) dX6_status_176 ?_
      exact J_iret (pc := 179) hX (hQ _) dX6_status_179
    refine J_swc (8 : Int32) (fun h13 => ?_) (fun h13 => ?_)
    · refine J_swIn (pc := 28) hX (tgt := 180) (off := 152) (8 : Int32) h13 (by decide) (by decide) rfl (by decide) dX6_status_28 ?_
      refine J_aload_n (pc := 180) hX 1 rfl dX6_status_180 ?_
      refine g_X6_10 (pc := 181) hX ht0 dX6_status_181 ?_
      refine g_X6_315 (pc := 184) hX (fs_6_0 t0 ht0) dX6_status_184 ?_
      exact J_iret (pc := 187) hX (hQ _) dX6_status_187
    refine J_swc (9 : Int32) (fun h14 => ?_) (fun h14 => ?_)
    · refine J_swIn (pc := 28) hX (tgt := 188) (off := 160) (9 : Int32) h14 (by decide) (by decide) rfl (by decide) dX6_status_28 ?_
      refine J_aload_n (pc := 188) hX 1 rfl dX6_status_188 ?_
      refine g_X6_10 (pc := 189) hX ht0 dX6_status_189 ?_
      refine g_X6_318 (pc := 192) hX (fs_6_0 t0 ht0) dX6_status_192 ?_
      exact J_iret (pc := 195) hX (hQ _) dX6_status_195
    refine J_swc (10 : Int32) (fun h15 => ?_) (fun h15 => ?_)
    · refine J_swIn (pc := 28) hX (tgt := 196) (off := 168) (10 : Int32) h15 (by decide) (by decide) rfl (by decide) dX6_status_28 ?_
      refine J_aload_n (pc := 196) hX 1 rfl dX6_status_196 ?_
      refine g_X6_25 (pc := 197) hX ht0 dX6_status_197 ?_
      refine g_X6_134 (pc := 200) hX (fs_6_4 t0 ht0) dX6_status_200 ?_
      exact J_iret (pc := 203) hX (hQ _) dX6_status_203
    refine J_swc (11 : Int32) (fun h16 => ?_) (fun h16 => ?_)
    · refine J_swIn (pc := 28) hX (tgt := 204) (off := 176) (11 : Int32) h16 (by decide) (by decide) rfl (by decide) dX6_status_28 ?_
      refine J_aload_n (pc := 204) hX 1 rfl dX6_status_204 ?_
      refine g_X6_10 (pc := 205) hX ht0 dX6_status_205 ?_
      refine g_X6_293 (pc := 208) hX (fs_6_0 t0 ht0) dX6_status_208 ?_
      refine g_X6_305 (pc := 211) hX (fs_4_14 (rfC t0 0) (fs_6_0 t0 ht0)) dX6_status_211 ?_
      exact J_iret (pc := 214) hX (hQ _) dX6_status_214
    refine J_swc (12 : Int32) (fun h17 => ?_) (fun h17 => ?_)
    · refine J_swIn (pc := 28) hX (tgt := 220) (off := 192) (12 : Int32) h17 (by decide) (by decide) rfl (by decide) dX6_status_28 ?_
      refine J_iconst (pc := 220) hX (v := (-1 : Int32)) (by decide) dX6_status_220 ?_
      exact J_iret (pc := 221) hX (hQ _) dX6_status_221
    refine J_swc (13 : Int32) (fun h18 => ?_) (fun h18 => ?_)
    · refine J_swIn (pc := 28) hX (tgt := 220) (off := 192) (13 : Int32) h18 (by decide) (by decide) rfl (by decide) dX6_status_28 ?_
      refine J_iconst (pc := 220) hX (v := (-1 : Int32)) (by decide) dX6_status_220 ?_
      exact J_iret (pc := 221) hX (hQ _) dX6_status_221
    refine J_swc (14 : Int32) (fun h19 => ?_) (fun h19 => ?_)
    · refine J_swIn (pc := 28) hX (tgt := 220) (off := 192) (14 : Int32) h19 (by decide) (by decide) rfl (by decide) dX6_status_28 ?_
      refine J_iconst (pc := 220) hX (v := (-1 : Int32)) (by decide) dX6_status_220 ?_
      exact J_iret (pc := 221) hX (hQ _) dX6_status_221
    refine J_swc (15 : Int32) (fun h20 => ?_) (fun h20 => ?_)
    · refine J_swIn (pc := 28) hX (tgt := 220) (off := 192) (15 : Int32) h20 (by decide) (by decide) rfl (by decide) dX6_status_28 ?_
      refine J_iconst (pc := 220) hX (v := (-1 : Int32)) (by decide) dX6_status_220 ?_
      exact J_iret (pc := 221) hX (hQ _) dX6_status_221
    refine J_swc (16 : Int32) (fun h21 => ?_) (fun h21 => ?_)
    · refine J_swIn (pc := 28) hX (tgt := 220) (off := 192) (16 : Int32) h21 (by decide) (by decide) rfl (by decide) dX6_status_28 ?_
      refine J_iconst (pc := 220) hX (v := (-1 : Int32)) (by decide) dX6_status_220 ?_
      exact J_iret (pc := 221) hX (hQ _) dX6_status_221
    refine J_swc (17 : Int32) (fun h22 => ?_) (fun h22 => ?_)
    · refine J_swIn (pc := 28) hX (tgt := 215) (off := 187) (17 : Int32) h22 (by decide) (by decide) rfl (by decide) dX6_status_28 ?_
      refine J_aload_n (pc := 215) hX 1 rfl dX6_status_215 ?_
      refine J_call1 (fun y23 e24 => ?_)
      refine jrun_i (pc := 216) (jRunV hX s_X6_321 (ci := 6) (T := TX6) (N := 8) (As := []) (rest := []) rfl (by decide) (C_X6_fullShelves Y hz0 t0 ht0 I0 L0 y23 e24) ht0 rfl rfl ⟨by decide, by decide⟩ ⟨Nat.le_of_ble_eq_true rfl, Nat.le_of_ble_eq_true rfl⟩ (Nat.le_of_ble_eq_true rfl) dX6_status_216) ?_
      exact J_iret (pc := 219) hX (hQ _) dX6_status_219
    refine J_swOut (pc := 28) hX (tgt := 220) (by decide) (jsw_2 (jsw_1 (b := 18) (17 : Int32) (jsw_1 (b := 17) (16 : Int32) (jsw_1 (b := 16) (15 : Int32) (jsw_1 (b := 15) (14 : Int32) (jsw_1 (b := 14) (13 : Int32) (jsw_1 (b := 13) (12 : Int32) (jsw_1 (b := 12) (11 : Int32) (jsw_1 (b := 11) (10 : Int32) (jsw_1 (b := 10) (9 : Int32) (jsw_1 (b := 9) (8 : Int32) (jsw_1 (b := 8) (7 : Int32) (jsw_1 (b := 7) (6 : Int32) (jsw_1 (b := 6) (5 : Int32) (jsw_1 (b := 5) (4 : Int32) (jsw_1 (b := 4) (3 : Int32) (jsw_1 (b := 3) (2 : Int32) (jsw_1 (b := 2) (1 : Int32) (jsw_1 (b := 1) (0 : Int32) jsw_0 h5 (by decide) (by decide)) h6 (by decide) (by decide)) h7 (by decide) (by decide)) h8 (by decide) (by decide)) h9 (by decide) (by decide)) h10 (by decide) (by decide)) h11 (by decide) (by decide)) h12 (by decide) (by decide)) h13 (by decide) (by decide)) h14 (by decide) (by decide)) h15 (by decide) (by decide)) h16 (by decide) (by decide)) h17 (by decide) (by decide)) h18 (by decide) (by decide)) h19 (by decide) (by decide)) h20 (by decide) (by decide)) h21 (by decide) (by decide)) h22 (by decide) (by decide)) (by decide)) dX6_status_28 ?_
    refine J_iconst (pc := 220) hX (v := (-1 : Int32)) (by decide) dX6_status_220 ?_
    exact J_iret (pc := 221) hX (hQ _) dX6_status_221
  · refine J_aload_n (pc := 20) hX 1 rfl dX6_status_20 ?_
    refine g_X6_35 (pc := 21) hX ht0 dX6_status_21 ?_
    refine J_iload_n (pc := 24) hX 0 rfl dX6_status_24 ?_
    refine J_iald (pc := 25) hX (N := 5) (fs_6_6 t0 ht0) (by decide) dX6_status_25 (fun h25 => ?_)
    exact J_iret (pc := 26) hX (hQ _) dX6_status_26
theorem C_X6_status (Y : jY) (hz0 : Y.zf = false) (t0 : Nat) (ht0 : shC t0 = 7) (p0 : Int32) (I0 : jI) (L0 : jL) (r : Int32) (h : X6_status t0 p0 I0 = some r) : jMet Y yX6_status cX6_status 3 (some .int) 5 167 0 0 [jr t0, ji p0] NC shC rfC I0 L0 (some (ji r)) NC shC rfC I0 L0 :=
  jmet_of _ _ h (fun Z r => jQ Y Z 0 0 (some (ji r)) NC shC rfC I0 L0) (fun _ => rfl) (by decide) (Nat.le_of_ble_eq_true rfl) (fun Z hX => W_X6_status hz0 t0 ht0 p0 I0 L0 hX (fun _ => rfl))
def X7_isIn (p0 : Int64) (p1 : Int64) (p2 : Int64) : Option (Int32) :=
if (lg_cmp p0 p1) < 0 then (
some (0 : Int32))
else (
if 0 < (lg_cmp p0 p2) then (
some (0 : Int32))
else (
some (1 : Int32)))
set_option maxRecDepth 20000 in
set_option maxHeartbeats 4000000 in
theorem W_X7_isIn {Y : jY} {Z : jZ} {Qf : Int32 → State → Prop} (hz0 : Y.zf = false) (p0 : Int64) (p1 : Int64) (p2 : Int64) (I0 : jI) (L0 : jL) (hX : jOK Y Z RX7 cX7_isIn 6 "isIn" (some .boolean) 1 80 0 0) (hQ : ∀ r : Int32, Qf r = jQ Y Z 0 0 (some (ji r)) NC shC rfC I0 L0) : J Y Z 6 Qf (X7_isIn p0 p1 p2) 0 [(0, jl p0), (2, jl p1), (4, jl p2)] [] 0 0 NC shC rfC I0 L0 := by
  unfold X7_isIn
  refine J_lload_n (pc := 0) hX 0 rfl dX7_isIn_0 ?_
  refine J_lload_n (pc := 1) hX 1 rfl dX7_isIn_1 ?_
  refine J_lcmp (pc := 2) hX dX7_isIn_2 ?_
  refine J_if_lt (pc := 3) hX (tgt := 17) (by decide) dX7_isIn_3 (fun h1 => ?_) (fun h1 => ?_)
  · refine J_iconst (pc := 17) hX (v := (0 : Int32)) (by decide) dX7_isIn_17 ?_
    exact J_zret (pc := 18) hX (by decide) (hQ _) dX7_isIn_18
  · refine J_lload_n (pc := 6) hX 0 rfl dX7_isIn_6 ?_
    refine J_lload (pc := 7) hX 2 rfl dX7_isIn_7 ?_
    refine J_lcmp (pc := 9) hX dX7_isIn_9 ?_
    refine J_if_gt (pc := 10) hX (tgt := 17) (by decide) dX7_isIn_10 (fun h2 => ?_) (fun h2 => ?_)
    · refine J_iconst (pc := 17) hX (v := (0 : Int32)) (by decide) dX7_isIn_17 ?_
      exact J_zret (pc := 18) hX (by decide) (hQ _) dX7_isIn_18
    · refine J_iconst (pc := 13) hX (v := (1 : Int32)) (by decide) dX7_isIn_13 ?_
      refine J_goto (pc := 14) hX (tgt := 18) (by decide) dX7_isIn_14 ?_
      exact J_zret (pc := 18) hX (by decide) (hQ _) dX7_isIn_18
theorem C_X7_isIn (Y : jY) (hz0 : Y.zf = false) (p0 : Int64) (p1 : Int64) (p2 : Int64) (I0 : jI) (L0 : jL) (r : Int32) (h : X7_isIn p0 p1 p2 = some r) : jMet Y yX7_isIn cX7_isIn 6 (some .boolean) 1 80 0 0 [jl p0, jl p1, jl p2] NC shC rfC I0 L0 (some (ji r)) NC shC rfC I0 L0 :=
  jmet_of _ _ h (fun Z r => jQ Y Z 0 0 (some (ji r)) NC shC rfC I0 L0) (fun _ => rfl) (by decide) (Nat.le_of_ble_eq_true rfl) (fun Z hX => W_X7_isIn hz0 p0 p1 p2 I0 L0 hX (fun _ => rfl))
def X7_pours_F1 (p0 : Nat) (p1 : Nat) (g3 : Int32 → jI → Option (jI)) : Int32 → jI → Option (jI) := fun (v1 : Int32) (I2 : jI) =>
if (784 : Int32) ≤ v1 then (
some I2)
else (
if jin v1 784 then (
if jin v1 784 then jlet (jup I2 p1 (v1).toNatClampNeg (I2 p0 (v1).toNatClampNeg)) (fun (I7 : jI) =>
g3 (v1 + (1 : Int32)) I7) else none) else none)
def X7_pours (p0 : Nat) (p1 : Nat) (I0 : jI) : Option (jI) :=
jfx (X7_pours_F1 p0 p1) (fun _ _ => none) 1000 (0 : Int32) I0
set_option maxRecDepth 20000 in
set_option maxHeartbeats 4000000 in
theorem W_X7_pours {Y : jY} {Z : jZ} {Qf : jI → State → Prop} (hz0 : Y.zf = false) (p0 : Nat) (hp0 : shC p0 = 1784) (p1 : Nat) (hp1 : shC p1 = 1784) (I0 : jI) (L0 : jL) (hX : jOK Y Z RX7 cX7_pours 3 "pours" none 1 80 0 0) (hQ : ∀ r : jI, Qf r = jQ Y Z 0 0 none NC shC rfC r L0) : J Y Z 3 Qf (X7_pours p0 p1 I0) 0 [(0, jr p0), (1, jr p1)] [] 0 0 NC shC rfC I0 L0 := by
  unfold X7_pours
  refine J_iconst (pc := 0) hX (v := (0 : Int32)) (by decide) dX7_pours_0 ?_
  refine J_istore_n (pc := 1) hX (lo' := [(2, ji (0 : Int32)), (0, jr p0), (1, jr p1)]) (by decide) rfl dX7_pours_1 ?_
  have lhg3 : ∀ mq : Nat, ∀ (v1 : Int32) (I2 : jI), J Y Z 3 Qf (jfx (X7_pours_F1 p0 p1) (fun _ _ => none) mq v1 I2) 2 [(0, jr p0), (1, jr p1), (2, ji v1)] [] 0 0 NC shC rfC I2 L0 := by
    intro mq
    refine jfx_J (fun (_ : Nat) (g3 : Int32 → jI → Option (jI)) => ∀ (v1 : Int32) (I2 : jI), J Y Z 3 Qf (g3 v1 I2) 2 [(0, jr p0), (1, jr p1), (2, ji v1)] [] 0 0 NC shC rfC I2 L0) ?_ (fun _ g3 hg3 => ?_) mq
    · intro v1 I2
      exact J_none
    intro v1 I2
    unfold X7_pours_F1
    try dsimp only
    refine J_iload_n (pc := 2) hX 2 rfl dX7_pours_2 ?_
    refine J_sipush (pc := 3) hX (v := (784 : Int32)) (by decide) dX7_pours_3 ?_
    refine J_icmp_ge (pc := 6) hX (tgt := 21) (by decide) dX7_pours_6 (fun h4 => ?_) (fun h4 => ?_)
    · exact J_vret (pc := 21) hX (hQ _) dX7_pours_21
    · refine J_aload_n (pc := 9) hX 1 rfl dX7_pours_9 ?_
      refine J_iload_n (pc := 10) hX 2 rfl dX7_pours_10 ?_
      refine J_aload_n (pc := 11) hX 0 rfl dX7_pours_11 ?_
      refine J_iload_n (pc := 12) hX 2 rfl dX7_pours_12 ?_
      refine J_iald (pc := 13) hX (N := 784) hp0 (by decide) dX7_pours_13 (fun h5 => ?_)
      refine J_iast (pc := 14) hX (N := 784) hp1 (by decide) dX7_pours_14 (fun h6 I7 => ?_)
      refine J_iinc (pc := 15) hX (v := (v1 + (1 : Int32))) (lo' := [(2, ji (v1 + (1 : Int32))), (0, jr p0), (1, jr p1)]) 2 rfl (by rfl) (by decide) rfl dX7_pours_15 ?_
      refine J_goto (pc := 18) hX (tgt := 2) (by decide) dX7_pours_18 ?_
      refine J_sub [1, 2, 0] rfl ?_
      exact hg3 (v1 + (1 : Int32)) I7
  refine J_sub [1, 2, 0] rfl ?_
  exact lhg3 1000 (0 : Int32) I0
theorem C_X7_pours (Y : jY) (hz0 : Y.zf = false) (p0 : Nat) (hp0 : shC p0 = 1784) (p1 : Nat) (hp1 : shC p1 = 1784) (I0 : jI) (L0 : jL) (I1 : jI) (h : X7_pours p0 p1 I0 = some I1) : jMet Y yX7_pours cX7_pours 3 none 1 80 0 0 [jr p0, jr p1] NC shC rfC I0 L0 none NC shC rfC I1 L0 :=
  jmet_of _ _ h (fun Z r => jQ Y Z 0 0 none NC shC rfC r L0) (fun _ => rfl) (by decide) (Nat.le_of_ble_eq_true rfl) (fun Z hX => W_X7_pours hz0 p0 hp0 p1 hp1 I0 L0 hX (fun _ => rfl))
def X7_refuses (t0 : Nat) (p0 : Int32) (I0 : jI) : Option (Int32 × jI) :=
if jin ((-52 : Int32) - p0) 5 then (
if jin ((-52 : Int32) - p0) 5 then jlet (jup I0 (rfC t0 4) (((-52 : Int32) - p0)).toNatClampNeg ((I0 (rfC t0 4) (((-52 : Int32) - p0)).toNatClampNeg) + (1 : Int32))) (fun (I3 : jI) =>
some (p0, I3)) else none) else none
set_option maxRecDepth 20000 in
set_option maxHeartbeats 4000000 in
theorem W_X7_refuses {Y : jY} {Z : jZ} {Qf : Int32 × jI → State → Prop} (hz0 : Y.zf = false) (t0 : Nat) (ht0 : shC t0 = 8) (p0 : Int32) (I0 : jI) (L0 : jL) (hX : jOK Y Z RX7 cX7_refuses 2 "refuses" (some .int) 1 80 0 0) (hQ : ∀ r : Int32 × jI, Qf r = jQ Y Z 0 0 (some (ji r.1)) NC shC rfC r.2 L0) : J Y Z 2 Qf (X7_refuses t0 p0 I0) 0 [(0, jr t0), (1, ji p0)] [] 0 0 NC shC rfC I0 L0 := by
  unfold X7_refuses
  refine J_aload_n (pc := 0) hX 0 rfl dX7_refuses_0 ?_
  refine g_X7_19 (pc := 1) hX ht0 dX7_refuses_1 ?_
  refine J_bipush (pc := 4) hX (v := (-52 : Int32)) (by decide) dX7_refuses_4 ?_
  refine J_iload_n (pc := 6) hX 1 rfl dX7_refuses_6 ?_
  refine J_isub (pc := 7) hX dX7_refuses_7 ?_
  refine J_dup2 (pc := 8) hX rfl rfl dX7_refuses_8 ?_
  refine J_iald (pc := 9) hX (N := 5) (fs_7_4 t0 ht0) (by decide) dX7_refuses_9 (fun h1 => ?_)
  refine J_iconst (pc := 10) hX (v := (1 : Int32)) (by decide) dX7_refuses_10 ?_
  refine J_iadd (pc := 11) hX dX7_refuses_11 ?_
  refine J_iast (pc := 12) hX (N := 5) (fs_7_4 t0 ht0) (by decide) dX7_refuses_12 (fun h2 I3 => ?_)
  refine J_iload_n (pc := 13) hX 1 rfl dX7_refuses_13 ?_
  exact J_iret (pc := 14) hX (hQ _) dX7_refuses_14
theorem C_X7_refuses (Y : jY) (hz0 : Y.zf = false) (t0 : Nat) (ht0 : shC t0 = 8) (p0 : Int32) (I0 : jI) (L0 : jL) (r : Int32) (I1 : jI) (h : X7_refuses t0 p0 I0 = some (r, I1)) : jMet Y yX7_refuses cX7_refuses 2 (some .int) 1 80 0 0 [jr t0, ji p0] NC shC rfC I0 L0 (some (ji r)) NC shC rfC I1 L0 :=
  jmet_of _ _ h (fun Z r => jQ Y Z 0 0 (some (ji r.1)) NC shC rfC r.2 L0) (fun _ => rfl) (by decide) (Nat.le_of_ble_eq_true rfl) (fun Z hX => W_X7_refuses hz0 t0 ht0 p0 I0 L0 hX (fun _ => rfl))
def X7_isPage (p0 : Int64) : Option (Int32) :=
(X7_isIn p0 (0 : Int64) (63 : Int64)).bind (fun (y1 : Int32) =>
if y1 = 0 ∨ y1 = 1 then some y1 else none)
set_option maxRecDepth 20000 in
set_option maxHeartbeats 4000000 in
theorem W_X7_isPage {Y : jY} {Z : jZ} {Qf : Int32 → State → Prop} (hz0 : Y.zf = false) (p0 : Int64) (I0 : jI) (L0 : jL) (hX : jOK Y Z RX7 cX7_isPage 2 "isPage" (some .boolean) 2 105 0 0) (hQ : ∀ r : Int32, Qf r = jQ Y Z 0 0 (some (ji r)) NC shC rfC I0 L0) : J Y Z 2 Qf (X7_isPage p0) 0 [(0, jl p0)] [] 0 0 NC shC rfC I0 L0 := by
  unfold X7_isPage
  refine J_lload_n (pc := 0) hX 0 rfl dX7_isPage_0 ?_
  refine J_lconst (pc := 1) hX (v := (0 : Int64)) (by decide) dX7_isPage_1 ?_
  refine J_ldc2 (pc := 2) hX q_X7_45 dX7_isPage_2 ?_
  refine J_call1 (fun y1 e2 => ?_)
  refine jrun_i (pc := 5) (jRunS hX s_X7_47 (As := [jl p0, jl (0 : Int64), jl (63 : Int64)]) (rest := []) (C_X7_isIn Y hz0 p0 (0 : Int64) (63 : Int64) I0 L0 y1 e2) rfl rfl ⟨by decide, by decide⟩ ⟨Nat.le_of_ble_eq_true rfl, Nat.le_of_ble_eq_true rfl⟩ (Nat.le_of_ble_eq_true rfl) dX7_isPage_5) ?_
  exact J_zretG (pc := 8) hX (hQ _) dX7_isPage_8
theorem C_X7_isPage (Y : jY) (hz0 : Y.zf = false) (p0 : Int64) (I0 : jI) (L0 : jL) (r : Int32) (h : X7_isPage p0 = some r) : jMet Y yX7_isPage cX7_isPage 2 (some .boolean) 2 105 0 0 [jl p0] NC shC rfC I0 L0 (some (ji r)) NC shC rfC I0 L0 :=
  jmet_of _ _ h (fun Z r => jQ Y Z 0 0 (some (ji r)) NC shC rfC I0 L0) (fun _ => rfl) (by decide) (Nat.le_of_ble_eq_true rfl) (fun Z hX => W_X7_isPage hz0 p0 I0 L0 hX (fun _ => rfl))
def X7_isLevel (t0 : Nat) (p0 : Int32) (I0 : jI) : Option (Int32) :=
if jin (688 : Int32) 784 then (
(X7_isIn ((p0).toInt64) (1 : Int64) (((I0 (rfC t0 0) ((688 : Int32)).toNatClampNeg)).toInt64)).bind (fun (y2 : Int32) =>
if y2 = 0 ∨ y2 = 1 then some y2 else none)) else none
set_option maxRecDepth 20000 in
set_option maxHeartbeats 4000000 in
theorem W_X7_isLevel {Y : jY} {Z : jZ} {Qf : Int32 → State → Prop} (hz0 : Y.zf = false) (t0 : Nat) (ht0 : shC t0 = 8) (p0 : Int32) (I0 : jI) (L0 : jL) (hX : jOK Y Z RX7 cX7_isLevel 2 "isLevel" (some .boolean) 2 105 0 0) (hQ : ∀ r : Int32, Qf r = jQ Y Z 0 0 (some (ji r)) NC shC rfC I0 L0) : J Y Z 2 Qf (X7_isLevel t0 p0 I0) 0 [(0, jr t0), (1, ji p0)] [] 0 0 NC shC rfC I0 L0 := by
  unfold X7_isLevel
  refine J_iload_n (pc := 0) hX 1 rfl dX7_isLevel_0 ?_
  refine J_i2l (pc := 1) hX dX7_isLevel_1 ?_
  refine J_lconst (pc := 2) hX (v := (1 : Int64)) (by decide) dX7_isLevel_2 ?_
  refine J_aload_n (pc := 3) hX 0 rfl dX7_isLevel_3 ?_
  refine g_X7_7 (pc := 4) hX ht0 dX7_isLevel_4 ?_
  refine J_sipush (pc := 7) hX (v := (688 : Int32)) (by decide) dX7_isLevel_7 ?_
  refine J_iald (pc := 10) hX (N := 784) (fs_7_0 t0 ht0) (by decide) dX7_isLevel_10 (fun h1 => ?_)
  refine J_i2l (pc := 11) hX dX7_isLevel_11 ?_
  refine J_call1 (fun y2 e3 => ?_)
  refine jrun_i (pc := 12) (jRunS hX s_X7_47 (As := [jl ((p0).toInt64), jl (1 : Int64), jl (((I0 (rfC t0 0) ((688 : Int32)).toNatClampNeg)).toInt64)]) (rest := []) (C_X7_isIn Y hz0 ((p0).toInt64) (1 : Int64) (((I0 (rfC t0 0) ((688 : Int32)).toNatClampNeg)).toInt64) I0 L0 y2 e3) rfl rfl ⟨by decide, by decide⟩ ⟨Nat.le_of_ble_eq_true rfl, Nat.le_of_ble_eq_true rfl⟩ (Nat.le_of_ble_eq_true rfl) dX7_isLevel_12) ?_
  exact J_zretG (pc := 15) hX (hQ _) dX7_isLevel_15
theorem C_X7_isLevel (Y : jY) (hz0 : Y.zf = false) (t0 : Nat) (ht0 : shC t0 = 8) (p0 : Int32) (I0 : jI) (L0 : jL) (r : Int32) (h : X7_isLevel t0 p0 I0 = some r) : jMet Y yX7_isLevel cX7_isLevel 2 (some .boolean) 2 105 0 0 [jr t0, ji p0] NC shC rfC I0 L0 (some (ji r)) NC shC rfC I0 L0 :=
  jmet_of _ _ h (fun Z r => jQ Y Z 0 0 (some (ji r)) NC shC rfC I0 L0) (fun _ => rfl) (by decide) (Nat.le_of_ble_eq_true rfl) (fun Z hX => W_X7_isLevel hz0 t0 ht0 p0 I0 L0 hX (fun _ => rfl))
def X7_at (p0 : Int32) (p1 : Int32) : Option (Int32) :=
some (((128 : Int32) + ((140 : Int32) * p0)) + p1)
set_option maxRecDepth 20000 in
set_option maxHeartbeats 4000000 in
theorem W_X7_at {Y : jY} {Z : jZ} {Qf : Int32 → State → Prop} (hz0 : Y.zf = false) (p0 : Int32) (p1 : Int32) (I0 : jI) (L0 : jL) (hX : jOK Y Z RX7 cX7_at 2 "at" (some .int) 1 80 0 0) (hQ : ∀ r : Int32, Qf r = jQ Y Z 0 0 (some (ji r)) NC shC rfC I0 L0) : J Y Z 2 Qf (X7_at p0 p1) 0 [(0, ji p0), (1, ji p1)] [] 0 0 NC shC rfC I0 L0 := by
  unfold X7_at
  refine J_sipush (pc := 0) hX (v := (128 : Int32)) (by decide) dX7_at_0 ?_
  refine J_sipush (pc := 3) hX (v := (140 : Int32)) (by decide) dX7_at_3 ?_
  refine J_iload_n (pc := 6) hX 0 rfl dX7_at_6 ?_
  refine J_imul (pc := 7) hX dX7_at_7 ?_
  refine J_iadd (pc := 8) hX dX7_at_8 ?_
  refine J_iload_n (pc := 9) hX 1 rfl dX7_at_9 ?_
  refine J_iadd (pc := 10) hX dX7_at_10 ?_
  exact J_iret (pc := 11) hX (hQ _) dX7_at_11
theorem C_X7_at (Y : jY) (hz0 : Y.zf = false) (p0 : Int32) (p1 : Int32) (I0 : jI) (L0 : jL) (r : Int32) (h : X7_at p0 p1 = some r) : jMet Y yX7_at cX7_at 2 (some .int) 1 80 0 0 [ji p0, ji p1] NC shC rfC I0 L0 (some (ji r)) NC shC rfC I0 L0 :=
  jmet_of _ _ h (fun Z r => jQ Y Z 0 0 (some (ji r)) NC shC rfC I0 L0) (fun _ => rfl) (by decide) (Nat.le_of_ble_eq_true rfl) (fun Z hX => W_X7_at hz0 p0 p1 I0 L0 hX (fun _ => rfl))
def X7_slotAt (p0 : Int32) (p1 : Int32) (p2 : Int32) : Option (Int32) :=
some (((((128 : Int32) + ((140 : Int32) * p0)) + (12 : Int32)) + ((7 : Int32) * p1)) + p2)
set_option maxRecDepth 20000 in
set_option maxHeartbeats 4000000 in
theorem W_X7_slotAt {Y : jY} {Z : jZ} {Qf : Int32 → State → Prop} (hz0 : Y.zf = false) (p0 : Int32) (p1 : Int32) (p2 : Int32) (I0 : jI) (L0 : jL) (hX : jOK Y Z RX7 cX7_slotAt 3 "slotAt" (some .int) 1 80 0 0) (hQ : ∀ r : Int32, Qf r = jQ Y Z 0 0 (some (ji r)) NC shC rfC I0 L0) : J Y Z 3 Qf (X7_slotAt p0 p1 p2) 0 [(0, ji p0), (1, ji p1), (2, ji p2)] [] 0 0 NC shC rfC I0 L0 := by
  unfold X7_slotAt
  refine J_sipush (pc := 0) hX (v := (128 : Int32)) (by decide) dX7_slotAt_0 ?_
  refine J_sipush (pc := 3) hX (v := (140 : Int32)) (by decide) dX7_slotAt_3 ?_
  refine J_iload_n (pc := 6) hX 0 rfl dX7_slotAt_6 ?_
  refine J_imul (pc := 7) hX dX7_slotAt_7 ?_
  refine J_iadd (pc := 8) hX dX7_slotAt_8 ?_
  refine J_bipush (pc := 9) hX (v := (12 : Int32)) (by decide) dX7_slotAt_9 ?_
  refine J_iadd (pc := 11) hX dX7_slotAt_11 ?_
  refine J_bipush (pc := 12) hX (v := (7 : Int32)) (by decide) dX7_slotAt_12 ?_
  refine J_iload_n (pc := 14) hX 1 rfl dX7_slotAt_14 ?_
  refine J_imul (pc := 15) hX dX7_slotAt_15 ?_
  refine J_iadd (pc := 16) hX dX7_slotAt_16 ?_
  refine J_iload_n (pc := 17) hX 2 rfl dX7_slotAt_17 ?_
  refine J_iadd (pc := 18) hX dX7_slotAt_18 ?_
  exact J_iret (pc := 19) hX (hQ _) dX7_slotAt_19
theorem C_X7_slotAt (Y : jY) (hz0 : Y.zf = false) (p0 : Int32) (p1 : Int32) (p2 : Int32) (I0 : jI) (L0 : jL) (r : Int32) (h : X7_slotAt p0 p1 p2 = some r) : jMet Y yX7_slotAt cX7_slotAt 3 (some .int) 1 80 0 0 [ji p0, ji p1, ji p2] NC shC rfC I0 L0 (some (ji r)) NC shC rfC I0 L0 :=
  jmet_of _ _ h (fun Z r => jQ Y Z 0 0 (some (ji r)) NC shC rfC I0 L0) (fun _ => rfl) (by decide) (Nat.le_of_ble_eq_true rfl) (fun Z hX => W_X7_slotAt hz0 p0 p1 p2 I0 L0 hX (fun _ => rfl))
def X7_of (t0 : Nat) (p0 : Int32) (p1 : Int32) (I0 : jI) : Option (Int32) :=
(X7_at p0 p1).bind (fun (y1 : Int32) =>
if jin y1 784 then (
some (I0 (rfC t0 0) (y1).toNatClampNeg)) else none)
set_option maxRecDepth 20000 in
set_option maxHeartbeats 4000000 in
theorem W_X7_of {Y : jY} {Z : jZ} {Qf : Int32 → State → Prop} (hz0 : Y.zf = false) (t0 : Nat) (ht0 : shC t0 = 8) (p0 : Int32) (p1 : Int32) (I0 : jI) (L0 : jL) (hX : jOK Y Z RX7 cX7_of 3 "of" (some .int) 2 101 0 0) (hQ : ∀ r : Int32, Qf r = jQ Y Z 0 0 (some (ji r)) NC shC rfC I0 L0) : J Y Z 3 Qf (X7_of t0 p0 p1 I0) 0 [(0, jr t0), (1, ji p0), (2, ji p1)] [] 0 0 NC shC rfC I0 L0 := by
  unfold X7_of
  refine J_aload_n (pc := 0) hX 0 rfl dX7_of_0 ?_
  refine g_X7_7 (pc := 1) hX ht0 dX7_of_1 ?_
  refine J_iload_n (pc := 4) hX 1 rfl dX7_of_4 ?_
  refine J_iload_n (pc := 5) hX 2 rfl dX7_of_5 ?_
  refine J_call1 (fun y1 e2 => ?_)
  refine jrun_i (pc := 6) (jRunS hX s_X7_51 (As := [ji p0, ji p1]) (rest := [jr (rfC t0 0)]) (C_X7_at Y hz0 p0 p1 I0 L0 y1 e2) rfl rfl ⟨by decide, by decide⟩ ⟨Nat.le_of_ble_eq_true rfl, Nat.le_of_ble_eq_true rfl⟩ (Nat.le_of_ble_eq_true rfl) dX7_of_6) ?_
  refine J_iald (pc := 9) hX (N := 784) (fs_7_0 t0 ht0) (by decide) dX7_of_9 (fun h3 => ?_)
  exact J_iret (pc := 10) hX (hQ _) dX7_of_10
theorem C_X7_of (Y : jY) (hz0 : Y.zf = false) (t0 : Nat) (ht0 : shC t0 = 8) (p0 : Int32) (p1 : Int32) (I0 : jI) (L0 : jL) (r : Int32) (h : X7_of t0 p0 p1 I0 = some r) : jMet Y yX7_of cX7_of 3 (some .int) 2 101 0 0 [jr t0, ji p0, ji p1] NC shC rfC I0 L0 (some (ji r)) NC shC rfC I0 L0 :=
  jmet_of _ _ h (fun Z r => jQ Y Z 0 0 (some (ji r)) NC shC rfC I0 L0) (fun _ => rfl) (by decide) (Nat.le_of_ble_eq_true rfl) (fun Z hX => W_X7_of hz0 t0 ht0 p0 p1 I0 L0 hX (fun _ => rfl))
def X7_note (t0 : Nat) (p0 : Int32) (p1 : Int32) (p2 : Int32) (I0 : jI) : Option (Int32) :=
(X7_slotAt p0 p1 p2).bind (fun (y1 : Int32) =>
if jin y1 784 then (
some (I0 (rfC t0 0) (y1).toNatClampNeg)) else none)
set_option maxRecDepth 20000 in
set_option maxHeartbeats 4000000 in
theorem W_X7_note {Y : jY} {Z : jZ} {Qf : Int32 → State → Prop} (hz0 : Y.zf = false) (t0 : Nat) (ht0 : shC t0 = 8) (p0 : Int32) (p1 : Int32) (p2 : Int32) (I0 : jI) (L0 : jL) (hX : jOK Y Z RX7 cX7_note 4 "note" (some .int) 2 102 0 0) (hQ : ∀ r : Int32, Qf r = jQ Y Z 0 0 (some (ji r)) NC shC rfC I0 L0) : J Y Z 4 Qf (X7_note t0 p0 p1 p2 I0) 0 [(0, jr t0), (1, ji p0), (2, ji p1), (3, ji p2)] [] 0 0 NC shC rfC I0 L0 := by
  unfold X7_note
  refine J_aload_n (pc := 0) hX 0 rfl dX7_note_0 ?_
  refine g_X7_7 (pc := 1) hX ht0 dX7_note_1 ?_
  refine J_iload_n (pc := 4) hX 1 rfl dX7_note_4 ?_
  refine J_iload_n (pc := 5) hX 2 rfl dX7_note_5 ?_
  refine J_iload_n (pc := 6) hX 3 rfl dX7_note_6 ?_
  refine J_call1 (fun y1 e2 => ?_)
  refine jrun_i (pc := 7) (jRunS hX s_X7_55 (As := [ji p0, ji p1, ji p2]) (rest := [jr (rfC t0 0)]) (C_X7_slotAt Y hz0 p0 p1 p2 I0 L0 y1 e2) rfl rfl ⟨by decide, by decide⟩ ⟨Nat.le_of_ble_eq_true rfl, Nat.le_of_ble_eq_true rfl⟩ (Nat.le_of_ble_eq_true rfl) dX7_note_7) ?_
  refine J_iald (pc := 10) hX (N := 784) (fs_7_0 t0 ht0) (by decide) dX7_note_10 (fun h3 => ?_)
  exact J_iret (pc := 11) hX (hQ _) dX7_note_11
theorem C_X7_note (Y : jY) (hz0 : Y.zf = false) (t0 : Nat) (ht0 : shC t0 = 8) (p0 : Int32) (p1 : Int32) (p2 : Int32) (I0 : jI) (L0 : jL) (r : Int32) (h : X7_note t0 p0 p1 p2 I0 = some r) : jMet Y yX7_note cX7_note 4 (some .int) 2 102 0 0 [jr t0, ji p0, ji p1, ji p2] NC shC rfC I0 L0 (some (ji r)) NC shC rfC I0 L0 :=
  jmet_of _ _ h (fun Z r => jQ Y Z 0 0 (some (ji r)) NC shC rfC I0 L0) (fun _ => rfl) (by decide) (Nat.le_of_ble_eq_true rfl) (fun Z hX => W_X7_note hz0 t0 ht0 p0 p1 p2 I0 L0 hX (fun _ => rfl))
def X7_found_F1 (t0 : Nat) (p0 : Int32) (p1 : Int32) (I0 : jI) (g2 : Int32 → Option (Int32)) : Int32 → Option (Int32) := fun (v1 : Int32) =>
(X7_of t0 p0 (0 : Int32) I0).bind (fun (y3 : Int32) =>
if y3 ≤ v1 then (
some (-1 : Int32))
else (
(X7_note t0 p0 v1 (0 : Int32) I0).bind (fun (y6 : Int32) =>
if y6 = p1 then (
some v1)
else (
g2 (v1 + (1 : Int32))))))
def X7_found (t0 : Nat) (p0 : Int32) (p1 : Int32) (I0 : jI) : Option (Int32) :=
jfx (X7_found_F1 t0 p0 p1 I0) (fun _ => none) 1000 (0 : Int32)
set_option maxRecDepth 20000 in
set_option maxHeartbeats 4000000 in
theorem W_X7_found {Y : jY} {Z : jZ} {Qf : Int32 → State → Prop} (hz0 : Y.zf = false) (t0 : Nat) (ht0 : shC t0 = 8) (p0 : Int32) (p1 : Int32) (I0 : jI) (L0 : jL) (hX : jOK Y Z RX7 cX7_found 4 "found" (some .int) 3 125 0 0) (hQ : ∀ r : Int32, Qf r = jQ Y Z 0 0 (some (ji r)) NC shC rfC I0 L0) : J Y Z 4 Qf (X7_found t0 p0 p1 I0) 0 [(0, jr t0), (1, ji p0), (2, ji p1)] [] 0 0 NC shC rfC I0 L0 := by
  unfold X7_found
  refine J_iconst (pc := 0) hX (v := (0 : Int32)) (by decide) dX7_found_0 ?_
  refine J_istore_n (pc := 1) hX (lo' := [(3, ji (0 : Int32)), (0, jr t0), (1, ji p0), (2, ji p1)]) (by decide) rfl dX7_found_1 ?_
  have lhg2 : ∀ mq : Nat, ∀ (v1 : Int32), J Y Z 4 Qf (jfx (X7_found_F1 t0 p0 p1 I0) (fun _ => none) mq v1) 2 [(0, jr t0), (1, ji p0), (2, ji p1), (3, ji v1)] [] 0 0 NC shC rfC I0 L0 := by
    intro mq
    refine jfx_J (fun (_ : Nat) (g2 : Int32 → Option (Int32)) => ∀ (v1 : Int32), J Y Z 4 Qf (g2 v1) 2 [(0, jr t0), (1, ji p0), (2, ji p1), (3, ji v1)] [] 0 0 NC shC rfC I0 L0) ?_ (fun _ g2 hg2 => ?_) mq
    · intro v1
      exact J_none
    intro v1
    unfold X7_found_F1
    try dsimp only
    refine J_iload_n (pc := 2) hX 3 rfl dX7_found_2 ?_
    refine J_aload_n (pc := 3) hX 0 rfl dX7_found_3 ?_
    refine J_iload_n (pc := 4) hX 1 rfl dX7_found_4 ?_
    refine J_iconst (pc := 5) hX (v := (0 : Int32)) (by decide) dX7_found_5 ?_
    refine J_call1 (fun y3 e4 => ?_)
    refine jrun_i (pc := 6) (jRunV hX s_X7_59 (ci := 7) (T := TX7) (N := 20) (As := [ji p0, ji (0 : Int32)]) (rest := [ji v1]) rfl (by decide) (C_X7_of Y hz0 t0 ht0 p0 (0 : Int32) I0 L0 y3 e4) ht0 rfl rfl ⟨by decide, by decide⟩ ⟨Nat.le_of_ble_eq_true rfl, Nat.le_of_ble_eq_true rfl⟩ (Nat.le_of_ble_eq_true rfl) dX7_found_6) ?_
    refine J_icmp_ge (pc := 9) hX (tgt := 31) (by decide) dX7_found_9 (fun h5 => ?_) (fun h5 => ?_)
    · refine J_iconst (pc := 31) hX (v := (-1 : Int32)) (by decide) dX7_found_31 ?_
      exact J_iret (pc := 32) hX (hQ _) dX7_found_32
    · refine J_aload_n (pc := 12) hX 0 rfl dX7_found_12 ?_
      refine J_iload_n (pc := 13) hX 1 rfl dX7_found_13 ?_
      refine J_iload_n (pc := 14) hX 3 rfl dX7_found_14 ?_
      refine J_iconst (pc := 15) hX (v := (0 : Int32)) (by decide) dX7_found_15 ?_
      refine J_call1 (fun y6 e7 => ?_)
      refine jrun_i (pc := 16) (jRunV hX s_X7_62 (ci := 7) (T := TX7) (N := 20) (As := [ji p0, ji v1, ji (0 : Int32)]) (rest := []) rfl (by decide) (C_X7_note Y hz0 t0 ht0 p0 v1 (0 : Int32) I0 L0 y6 e7) ht0 rfl rfl ⟨by decide, by decide⟩ ⟨Nat.le_of_ble_eq_true rfl, Nat.le_of_ble_eq_true rfl⟩ (Nat.le_of_ble_eq_true rfl) dX7_found_16) ?_
      refine J_iload_n (pc := 19) hX 2 rfl dX7_found_19 ?_
      refine J_icmp_ne (pc := 20) hX (tgt := 25) (by decide) dX7_found_20 (fun h8 => ?_) (fun h8 => ?_)
      · refine J_iinc (pc := 25) hX (v := (v1 + (1 : Int32))) (lo' := [(3, ji (v1 + (1 : Int32))), (0, jr t0), (1, ji p0), (2, ji p1)]) 3 rfl (by rfl) (by decide) rfl dX7_found_25 ?_
        refine J_goto (pc := 28) hX (tgt := 2) (by decide) dX7_found_28 ?_
        refine J_sub [1, 2, 3, 0] rfl ?_
        exact hg2 (v1 + (1 : Int32))
      · refine J_iload_n (pc := 23) hX 3 rfl dX7_found_23 ?_
        exact J_iret (pc := 24) hX (hQ _) dX7_found_24
  refine J_sub [1, 2, 3, 0] rfl ?_
  exact lhg2 1000 (0 : Int32)
theorem C_X7_found (Y : jY) (hz0 : Y.zf = false) (t0 : Nat) (ht0 : shC t0 = 8) (p0 : Int32) (p1 : Int32) (I0 : jI) (L0 : jL) (r : Int32) (h : X7_found t0 p0 p1 I0 = some r) : jMet Y yX7_found cX7_found 4 (some .int) 3 125 0 0 [jr t0, ji p0, ji p1] NC shC rfC I0 L0 (some (ji r)) NC shC rfC I0 L0 :=
  jmet_of _ _ h (fun Z r => jQ Y Z 0 0 (some (ji r)) NC shC rfC I0 L0) (fun _ => rfl) (by decide) (Nat.le_of_ble_eq_true rfl) (fun Z hX => W_X7_found hz0 t0 ht0 p0 p1 I0 L0 hX (fun _ => rfl))
def X7_draw (t0 : Nat) (p0 : Int32) (I0 : jI) : Option (Int32 × jI) :=
if jin (699 : Int32) 784 then (
if jin (699 : Int32) 784 then jlet (jup I0 (rfC t0 0) ((699 : Int32)).toNatClampNeg (((I0 (rfC t0 0) ((699 : Int32)).toNatClampNeg) * (1103515245 : Int32)) + (12345 : Int32))) (fun (I3 : jI) =>
if jin (699 : Int32) 784 then (
if p0 = 0 then none else (
some ((jrem (jushr (I3 (rfC t0 0) ((699 : Int32)).toNatClampNeg) (16 : Int32)) p0), I3))) else none) else none) else none
set_option maxRecDepth 20000 in
set_option maxHeartbeats 4000000 in
theorem W_X7_draw {Y : jY} {Z : jZ} {Qf : Int32 × jI → State → Prop} (hz0 : Y.zf = false) (t0 : Nat) (ht0 : shC t0 = 8) (p0 : Int32) (I0 : jI) (L0 : jL) (hX : jOK Y Z RX7 cX7_draw 2 "draw" (some .int) 1 80 0 0) (hQ : ∀ r : Int32 × jI, Qf r = jQ Y Z 0 0 (some (ji r.1)) NC shC rfC r.2 L0) : J Y Z 2 Qf (X7_draw t0 p0 I0) 0 [(0, jr t0), (1, ji p0)] [] 0 0 NC shC rfC I0 L0 := by
  unfold X7_draw
  refine J_aload_n (pc := 0) hX 0 rfl dX7_draw_0 ?_
  refine g_X7_7 (pc := 1) hX ht0 dX7_draw_1 ?_
  refine J_sipush (pc := 4) hX (v := (699 : Int32)) (by decide) dX7_draw_4 ?_
  refine J_aload_n (pc := 7) hX 0 rfl dX7_draw_7 ?_
  refine g_X7_7 (pc := 8) hX ht0 dX7_draw_8 ?_
  refine J_sipush (pc := 11) hX (v := (699 : Int32)) (by decide) dX7_draw_11 ?_
  refine J_iald (pc := 14) hX (N := 784) (fs_7_0 t0 ht0) (by decide) dX7_draw_14 (fun h1 => ?_)
  refine J_ldc (pc := 15) hX q_X7_65 dX7_draw_15 ?_
  refine J_imul (pc := 17) hX dX7_draw_17 ?_
  refine J_sipush (pc := 18) hX (v := (12345 : Int32)) (by decide) dX7_draw_18 ?_
  refine J_iadd (pc := 21) hX dX7_draw_21 ?_
  refine J_iast (pc := 22) hX (N := 784) (fs_7_0 t0 ht0) (by decide) dX7_draw_22 (fun h2 I3 => ?_)
  refine J_aload_n (pc := 23) hX 0 rfl dX7_draw_23 ?_
  refine g_X7_7 (pc := 24) hX ht0 dX7_draw_24 ?_
  refine J_sipush (pc := 27) hX (v := (699 : Int32)) (by decide) dX7_draw_27 ?_
  refine J_iald (pc := 30) hX (N := 784) (fs_7_0 t0 ht0) (by decide) dX7_draw_30 (fun h4 => ?_)
  refine J_bipush (pc := 31) hX (v := (16 : Int32)) (by decide) dX7_draw_31 ?_
  refine J_iushr (pc := 33) hX dX7_draw_33 ?_
  refine J_iload_n (pc := 34) hX 1 rfl dX7_draw_34 ?_
  refine J_irem (pc := 35) hX dX7_draw_35 (fun h5 => ?_)
  exact J_iret (pc := 36) hX (hQ _) dX7_draw_36
theorem C_X7_draw (Y : jY) (hz0 : Y.zf = false) (t0 : Nat) (ht0 : shC t0 = 8) (p0 : Int32) (I0 : jI) (L0 : jL) (r : Int32) (I1 : jI) (h : X7_draw t0 p0 I0 = some (r, I1)) : jMet Y yX7_draw cX7_draw 2 (some .int) 1 80 0 0 [jr t0, ji p0] NC shC rfC I0 L0 (some (ji r)) NC shC rfC I1 L0 :=
  jmet_of _ _ h (fun Z r => jQ Y Z 0 0 (some (ji r.1)) NC shC rfC r.2 L0) (fun _ => rfl) (by decide) (Nat.le_of_ble_eq_true rfl) (fun Z hX => W_X7_draw hz0 t0 ht0 p0 I0 L0 hX (fun _ => rfl))
def X7_noted_F1 (t0 : Nat) (p0 : Int32) (I0 : jI) (y1 : Int32) (g5 : Int32 → Int32 → Option (Int32)) : Int32 → Int32 → Option (Int32) := fun (v3 : Int32) (v4 : Int32) =>
(X7_of t0 p0 (0 : Int32) I0).bind (fun (y6 : Int32) =>
if y6 ≤ v4 then (
some v3)
else (
(X7_note t0 p0 v4 (0 : Int32) I0).bind (fun (y9 : Int32) =>
jlet (fun (v11 : Int32) =>
g5 v11 (v4 + (1 : Int32))) (fun (k12 : Int32 → Option (Int32)) =>
if y9 < 0 then (
k12 v3)
else (
jlet (if 0 ≤ v3 then (0 : Int32) else (1 : Int32)) (fun (y15 : Int32) =>
jlet (fun (v16 : Int32) =>
jlet (if v16 = 0 then v3 else v4) (fun (y19 : Int32) =>
k12 y19)) (fun (k17 : Int32 → Option (Int32)) =>
jlet (
jlet (
jlet (
if y15 = 0 then (
(X7_note t0 p0 v4 (5 : Int32) I0).bind (fun (y24 : Int32) =>
(X7_note t0 p0 v3 (5 : Int32) I0).bind (fun (y26 : Int32) =>
jlet ((y24 - y26)) (fun (y28 : Int32) =>
jlet (fun (v29 : Int32) =>
k17 v29) (fun (k30 : Int32 → Option (Int32)) =>
jlet (
k30 (1 : Int32)) (fun (k31 : Option (Int32)) =>
if y28 < 0 then (
k31)
else (
jlet (
k30 (0 : Int32)) (fun (k33 : Option (Int32)) =>
if y28 = 0 then (
(X7_note t0 p0 v4 (4 : Int32) I0).bind (fun (y35 : Int32) =>
(X7_note t0 p0 v3 (4 : Int32) I0).bind (fun (y37 : Int32) =>
if y37 ≤ y35 then (
k33)
else (
k31))))
else (
k33)))))))))
else (
k17 y15)) (fun (k22 : Option (Int32)) =>
if y15 = 0 then (
if y1 = (5 : Int32) then (
(X7_note t0 p0 v4 (4 : Int32) I0).bind (fun (y42 : Int32) =>
(X7_note t0 p0 v3 (4 : Int32) I0).bind (fun (y44 : Int32) =>
jlet (if y42 ≤ y44 then (0 : Int32) else (1 : Int32)) (fun (y47 : Int32) =>
k17 y47))))
else (
k22))
else (
k22))) (fun (k21 : Option (Int32)) =>
if y15 = 0 then (
if y1 = (4 : Int32) then (
(X7_note t0 p0 v4 (4 : Int32) I0).bind (fun (y50 : Int32) =>
(X7_note t0 p0 v3 (4 : Int32) I0).bind (fun (y52 : Int32) =>
jlet (if y52 ≤ y50 then (0 : Int32) else (1 : Int32)) (fun (y55 : Int32) =>
k17 y55))))
else (
k21))
else (
k21))) (fun (k20 : Option (Int32)) =>
if y15 = 0 then (
if y1 = (3 : Int32) then (
(X7_note t0 p0 v4 (3 : Int32) I0).bind (fun (y58 : Int32) =>
(X7_note t0 p0 v3 (3 : Int32) I0).bind (fun (y60 : Int32) =>
jlet (if y60 ≤ y58 then (0 : Int32) else (1 : Int32)) (fun (y63 : Int32) =>
k17 y63))))
else (
k20))
else (
k20)))))))))
def X7_noted (t0 : Nat) (p0 : Int32) (I0 : jI) : Option (Int32) :=
(X7_of t0 p0 (2 : Int32) I0).bind (fun (y1 : Int32) =>
jfx (X7_noted_F1 t0 p0 I0 y1) (fun _ _ => none) 1000 (-1 : Int32) (0 : Int32))
set_option maxRecDepth 20000 in
set_option maxHeartbeats 4000000 in
theorem W_X7_noted {Y : jY} {Z : jZ} {Qf : Int32 → State → Prop} (hz0 : Y.zf = false) (t0 : Nat) (ht0 : shC t0 = 8) (p0 : Int32) (I0 : jI) (L0 : jL) (hX : jOK Y Z RX7 cX7_noted 7 "noted" (some .int) 3 125 0 0) (hQ : ∀ r : Int32, Qf r = jQ Y Z 0 0 (some (ji r)) NC shC rfC I0 L0) : J Y Z 7 Qf (X7_noted t0 p0 I0) 0 [(0, jr t0), (1, ji p0)] [] 0 0 NC shC rfC I0 L0 := by
  unfold X7_noted
  refine J_aload_n (pc := 0) hX 0 rfl dX7_noted_0 ?_
  refine J_iload_n (pc := 1) hX 1 rfl dX7_noted_1 ?_
  refine J_iconst (pc := 2) hX (v := (2 : Int32)) (by decide) dX7_noted_2 ?_
  refine J_call1 (fun y1 e2 => ?_)
  refine jrun_i (pc := 3) (jRunV hX s_X7_59 (ci := 7) (T := TX7) (N := 20) (As := [ji p0, ji (2 : Int32)]) (rest := []) rfl (by decide) (C_X7_of Y hz0 t0 ht0 p0 (2 : Int32) I0 L0 y1 e2) ht0 rfl rfl ⟨by decide, by decide⟩ ⟨Nat.le_of_ble_eq_true rfl, Nat.le_of_ble_eq_true rfl⟩ (Nat.le_of_ble_eq_true rfl) dX7_noted_3) ?_
  refine J_istore_n (pc := 6) hX (lo' := [(2, ji y1), (0, jr t0), (1, ji p0)]) (by decide) rfl dX7_noted_6 ?_
  refine J_iconst (pc := 7) hX (v := (-1 : Int32)) (by decide) dX7_noted_7 ?_
  refine J_istore_n (pc := 8) hX (lo' := [(3, ji (-1 : Int32)), (2, ji y1), (0, jr t0), (1, ji p0)]) (by decide) rfl dX7_noted_8 ?_
  refine J_iconst (pc := 9) hX (v := (0 : Int32)) (by decide) dX7_noted_9 ?_
  refine J_istore (pc := 10) hX (lo' := [(4, ji (0 : Int32)), (3, ji (-1 : Int32)), (2, ji y1), (0, jr t0), (1, ji p0)]) (by decide) rfl dX7_noted_10 ?_
  have lhg5 : ∀ mq : Nat, ∀ (v3 : Int32) (v4 : Int32), J Y Z 7 Qf (jfx (X7_noted_F1 t0 p0 I0 y1) (fun _ _ => none) mq v3 v4) 12 [(0, jr t0), (1, ji p0), (2, ji y1), (3, ji v3), (4, ji v4)] [] 0 0 NC shC rfC I0 L0 := by
    intro mq
    refine jfx_J (fun (_ : Nat) (g5 : Int32 → Int32 → Option (Int32)) => ∀ (v3 : Int32) (v4 : Int32), J Y Z 7 Qf (g5 v3 v4) 12 [(0, jr t0), (1, ji p0), (2, ji y1), (3, ji v3), (4, ji v4)] [] 0 0 NC shC rfC I0 L0) ?_ (fun _ g5 hg5 => ?_) mq
    · intro v3 v4
      exact J_none
    intro v3 v4
    unfold X7_noted_F1
    try dsimp only
    refine J_iload (pc := 12) hX 4 rfl dX7_noted_12 ?_
    refine J_aload_n (pc := 14) hX 0 rfl dX7_noted_14 ?_
    refine J_iload_n (pc := 15) hX 1 rfl dX7_noted_15 ?_
    refine J_iconst (pc := 16) hX (v := (0 : Int32)) (by decide) dX7_noted_16 ?_
    refine J_call1 (fun y6 e7 => ?_)
    refine jrun_i (pc := 17) (jRunV hX s_X7_59 (ci := 7) (T := TX7) (N := 20) (As := [ji p0, ji (0 : Int32)]) (rest := [ji v4]) rfl (by decide) (C_X7_of Y hz0 t0 ht0 p0 (0 : Int32) I0 L0 y6 e7) ht0 rfl rfl ⟨by decide, by decide⟩ ⟨Nat.le_of_ble_eq_true rfl, Nat.le_of_ble_eq_true rfl⟩ (Nat.le_of_ble_eq_true rfl) dX7_noted_17) ?_
    refine J_icmp_ge (pc := 20) hX (tgt := 235) (by decide) dX7_noted_20 (fun h8 => ?_) (fun h8 => ?_)
    · refine J_iload_n (pc := 235) hX 3 rfl dX7_noted_235 ?_
      exact J_iret (pc := 236) hX (hQ _) dX7_noted_236
    · refine J_aload_n (pc := 23) hX 0 rfl dX7_noted_23 ?_
      refine J_iload_n (pc := 24) hX 1 rfl dX7_noted_24 ?_
      refine J_iload (pc := 25) hX 4 rfl dX7_noted_25 ?_
      refine J_iconst (pc := 27) hX (v := (0 : Int32)) (by decide) dX7_noted_27 ?_
      refine J_call1 (fun y9 e10 => ?_)
      refine jrun_i (pc := 28) (jRunV hX s_X7_62 (ci := 7) (T := TX7) (N := 20) (As := [ji p0, ji v4, ji (0 : Int32)]) (rest := []) rfl (by decide) (C_X7_note Y hz0 t0 ht0 p0 v4 (0 : Int32) I0 L0 y9 e10) ht0 rfl rfl ⟨by decide, by decide⟩ ⟨Nat.le_of_ble_eq_true rfl, Nat.le_of_ble_eq_true rfl⟩ (Nat.le_of_ble_eq_true rfl) dX7_noted_28) ?_
      refine J_join (fun (k12 : Int32 → Option (Int32)) => ∀ (v11 : Int32), J Y Z 7 Qf (k12 v11) 229 [(0, jr t0), (1, ji p0), (2, ji y1), (3, ji v11), (4, ji v4)] [] 0 0 NC shC rfC I0 L0) ?_ (fun k12 hk12 => ?_)
      · intro v11
        try dsimp only
        refine J_iinc (pc := 229) hX (v := (v4 + (1 : Int32))) (lo' := [(4, ji (v4 + (1 : Int32))), (0, jr t0), (1, ji p0), (2, ji y1), (3, ji v11)]) 4 rfl (by rfl) (by decide) rfl dX7_noted_229 ?_
        refine J_goto (pc := 232) hX (tgt := 12) (by decide) dX7_noted_232 ?_
        refine J_sub [1, 2, 3, 4, 0] rfl ?_
        exact hg5 v11 (v4 + (1 : Int32))
      refine J_if_lt (pc := 31) hX (tgt := 229) (by decide) dX7_noted_31 (fun h13 => ?_) (fun h13 => ?_)
      · exact hk12 v3
      · refine J_iload_n (pc := 34) hX 3 rfl dX7_noted_34 ?_
        refine J_vjoin (fun kq (y15 : Int32) => J Y Z 7 Qf (kq) 43 [(0, jr t0), (1, ji p0), (2, ji y1), (3, ji v3), (4, ji v4)] [ji y15] 0 0 NC shC rfC I0 L0) (fun y15 => ?_) (fun hj => ?_)
        · try dsimp only
          refine J_istore (pc := 43) hX (lo' := [(5, ji y15), (0, jr t0), (1, ji p0), (2, ji y1), (3, ji v3), (4, ji v4)]) (by decide) rfl dX7_noted_43 ?_
          refine J_iload (pc := 45) hX 0 rfl dX7_noted_45 ?_
          refine J_join (fun (k17 : Int32 → Option (Int32)) => ∀ (v16 : Int32), J Y Z 7 Qf (k17 v16) 217 [(0, jr t0), (1, ji p0), (2, ji y1), (3, ji v3), (4, ji v4), (5, ji v16)] [] 0 0 NC shC rfC I0 L0) ?_ (fun k17 hk17 => ?_)
          · intro v16
            try dsimp only
            refine J_iload (pc := 217) hX 5 rfl dX7_noted_217 ?_
            refine J_vjoin (fun kq (y19 : Int32) => J Y Z 7 Qf (kq) 228 [(0, jr t0), (1, ji p0), (2, ji y1), (3, ji v3), (4, ji v4), (5, ji v16)] [ji y19] 0 0 NC shC rfC I0 L0) (fun y19 => ?_) (fun hj => ?_)
            · try dsimp only
              refine J_istore_n (pc := 228) hX (lo' := [(3, ji y19), (0, jr t0), (1, ji p0), (2, ji y1), (4, ji v4), (5, ji v16)]) (by decide) rfl dX7_noted_228 ?_
              refine J_sub [1, 2, 3, 0, 4] rfl ?_
              exact hk12 y19
            try dsimp only at hj
            refine J_if_eqV (pc := 219) hX (tgt := 227) (by decide) dX7_noted_219 (fun h18 => ?_) (fun h18 => ?_)
            · refine J_iload_n (pc := 227) hX 3 rfl dX7_noted_227 ?_
              exact hj _
            · refine J_iload (pc := 222) hX 4 rfl dX7_noted_222 ?_
              refine J_goto (pc := 224) hX (tgt := 228) (by decide) dX7_noted_224 ?_
              exact hj _
          refine J_join (fun (k20 : Option (Int32)) => J Y Z 7 Qf (k20) 83 [(0, jr t0), (1, ji p0), (2, ji y1), (3, ji v3), (4, ji v4), (5, ji y15)] [] 0 0 NC shC rfC I0 L0) ?_ (fun k20 hk20 => ?_)
          · refine J_iload (pc := 83) hX 5 rfl dX7_noted_83 ?_
            refine J_join (fun (k21 : Option (Int32)) => J Y Z 7 Qf (k21) 121 [(0, jr t0), (1, ji p0), (2, ji y1), (3, ji v3), (4, ji v4), (5, ji y15)] [] 0 0 NC shC rfC I0 L0) ?_ (fun k21 hk21 => ?_)
            · refine J_iload (pc := 121) hX 5 rfl dX7_noted_121 ?_
              refine J_join (fun (k22 : Option (Int32)) => J Y Z 7 Qf (k22) 159 [(0, jr t0), (1, ji p0), (2, ji y1), (3, ji v3), (4, ji v4), (5, ji y15)] [] 0 0 NC shC rfC I0 L0) ?_ (fun k22 hk22 => ?_)
              · refine J_iload (pc := 159) hX 5 rfl dX7_noted_159 ?_
                refine J_if_ne (pc := 161) hX (tgt := 217) (by decide) dX7_noted_161 (fun h23 => ?_) (fun h23 => ?_)
                · exact hk17 y15
                · refine J_aload_n (pc := 164) hX 0 rfl dX7_noted_164 ?_
                  refine J_iload_n (pc := 165) hX 1 rfl dX7_noted_165 ?_
                  refine J_iload (pc := 166) hX 4 rfl dX7_noted_166 ?_
                  refine J_iconst (pc := 168) hX (v := (5 : Int32)) (by decide) dX7_noted_168 ?_
                  refine J_call1 (fun y24 e25 => ?_)
                  refine jrun_i (pc := 169) (jRunV hX s_X7_62 (ci := 7) (T := TX7) (N := 20) (As := [ji p0, ji v4, ji (5 : Int32)]) (rest := []) rfl (by decide) (C_X7_note Y hz0 t0 ht0 p0 v4 (5 : Int32) I0 L0 y24 e25) ht0 rfl rfl ⟨by decide, by decide⟩ ⟨Nat.le_of_ble_eq_true rfl, Nat.le_of_ble_eq_true rfl⟩ (Nat.le_of_ble_eq_true rfl) dX7_noted_169) ?_
                  refine J_aload_n (pc := 172) hX 0 rfl dX7_noted_172 ?_
                  refine J_iload_n (pc := 173) hX 1 rfl dX7_noted_173 ?_
                  refine J_iload_n (pc := 174) hX 3 rfl dX7_noted_174 ?_
                  refine J_iconst (pc := 175) hX (v := (5 : Int32)) (by decide) dX7_noted_175 ?_
                  refine J_call1 (fun y26 e27 => ?_)
                  refine jrun_i (pc := 176) (jRunV hX s_X7_62 (ci := 7) (T := TX7) (N := 20) (As := [ji p0, ji v3, ji (5 : Int32)]) (rest := [ji y24]) rfl (by decide) (C_X7_note Y hz0 t0 ht0 p0 v3 (5 : Int32) I0 L0 y26 e27) ht0 rfl rfl ⟨by decide, by decide⟩ ⟨Nat.le_of_ble_eq_true rfl, Nat.le_of_ble_eq_true rfl⟩ (Nat.le_of_ble_eq_true rfl) dX7_noted_176) ?_
                  refine J_isub (pc := 179) hX dX7_noted_179 ?_
                  refine J_leti (fun y28 => ?_)
                  refine J_istore (pc := 180) hX (lo' := [(6, ji y28), (0, jr t0), (1, ji p0), (2, ji y1), (3, ji v3), (4, ji v4), (5, ji y15)]) (by decide) rfl dX7_noted_180 ?_
                  refine J_iload (pc := 182) hX 0 rfl dX7_noted_182 ?_
                  refine J_join (fun (k30 : Int32 → Option (Int32)) => ∀ (v29 : Int32), J Y Z 7 Qf (k30 v29) 215 [(0, jr t0), (1, ji p0), (2, ji y1), (3, ji v3), (4, ji v4)] [ji v29] 0 0 NC shC rfC I0 L0) ?_ (fun k30 hk30 => ?_)
                  · intro v29
                    try dsimp only
                    refine J_istore (pc := 215) hX (lo' := [(5, ji v29), (0, jr t0), (1, ji p0), (2, ji y1), (3, ji v3), (4, ji v4)]) (by decide) rfl dX7_noted_215 ?_
                    refine J_sub [1, 2, 3, 4, 5, 0] rfl ?_
                    exact hk17 v29
                  refine J_join (fun (k31 : Option (Int32)) => J Y Z 7 Qf (k31) 210 [(0, jr t0), (1, ji p0), (2, ji y1), (3, ji v3), (4, ji v4)] [] 0 0 NC shC rfC I0 L0) ?_ (fun k31 hk31 => ?_)
                  · refine J_iconst (pc := 210) hX (v := (1 : Int32)) (by decide) dX7_noted_210 ?_
                    refine J_goto (pc := 211) hX (tgt := 215) (by decide) dX7_noted_211 ?_
                    exact hk30 (1 : Int32)
                  refine J_if_lt (pc := 184) hX (tgt := 210) (by decide) dX7_noted_184 (fun h32 => ?_) (fun h32 => ?_)
                  · refine J_sub [1, 2, 3, 4, 5] rfl ?_
                    exact hk31
                  · refine J_iload (pc := 187) hX 0 rfl dX7_noted_187 ?_
                    refine J_join (fun (k33 : Option (Int32)) => J Y Z 7 Qf (k33) 214 [(0, jr t0), (1, ji p0), (2, ji y1), (3, ji v3), (4, ji v4)] [] 0 0 NC shC rfC I0 L0) ?_ (fun k33 hk33 => ?_)
                    · refine J_iconst (pc := 214) hX (v := (0 : Int32)) (by decide) dX7_noted_214 ?_
                      exact hk30 (0 : Int32)
                    refine J_if_ne (pc := 189) hX (tgt := 214) (by decide) dX7_noted_189 (fun h34 => ?_) (fun h34 => ?_)
                    · refine J_sub [1, 2, 3, 4, 5] rfl ?_
                      exact hk33
                    · refine J_aload_n (pc := 192) hX 1 rfl dX7_noted_192 ?_
                      refine J_iload_n (pc := 193) hX 2 rfl dX7_noted_193 ?_
                      refine J_iload (pc := 194) hX 5 rfl dX7_noted_194 ?_
                      refine J_iconst (pc := 196) hX (v := (4 : Int32)) (by decide) dX7_noted_196 ?_
                      refine J_call1 (fun y35 e36 => ?_)
                      refine jrun_i (pc := 197) (jRunV hX s_X7_62 (ci := 7) (T := TX7) (N := 20) (As := [ji p0, ji v4, ji (4 : Int32)]) (rest := []) rfl (by decide) (C_X7_note Y hz0 t0 ht0 p0 v4 (4 : Int32) I0 L0 y35 e36) ht0 rfl rfl ⟨by decide, by decide⟩ ⟨Nat.le_of_ble_eq_true rfl, Nat.le_of_ble_eq_true rfl⟩ (Nat.le_of_ble_eq_true rfl) dX7_noted_197) ?_
                      refine J_aload_n (pc := 200) hX 1 rfl dX7_noted_200 ?_
                      refine J_iload_n (pc := 201) hX 2 rfl dX7_noted_201 ?_
                      refine J_iload_n (pc := 202) hX 4 rfl dX7_noted_202 ?_
                      refine J_iconst (pc := 203) hX (v := (4 : Int32)) (by decide) dX7_noted_203 ?_
                      refine J_call1 (fun y37 e38 => ?_)
                      refine jrun_i (pc := 204) (jRunV hX s_X7_62 (ci := 7) (T := TX7) (N := 20) (As := [ji p0, ji v3, ji (4 : Int32)]) (rest := [ji y35]) rfl (by decide) (C_X7_note Y hz0 t0 ht0 p0 v3 (4 : Int32) I0 L0 y37 e38) ht0 rfl rfl ⟨by decide, by decide⟩ ⟨Nat.le_of_ble_eq_true rfl, Nat.le_of_ble_eq_true rfl⟩ (Nat.le_of_ble_eq_true rfl) dX7_noted_204) ?_
                      refine J_icmp_ge (pc := 207) hX (tgt := 214) (by decide) dX7_noted_207 (fun h39 => ?_) (fun h39 => ?_)
                      · refine J_sub [1, 2, 3, 4, 5] rfl ?_
                        exact hk33
                      · refine J_sub [1, 2, 3, 4, 5] rfl ?_
                        exact hk31
              refine J_if_ne (pc := 123) hX (tgt := 159) (by decide) dX7_noted_123 (fun h40 => ?_) (fun h40 => ?_)
              · exact hk22
              · refine J_iload_n (pc := 126) hX 2 rfl dX7_noted_126 ?_
                refine J_iconst (pc := 127) hX (v := (5 : Int32)) (by decide) dX7_noted_127 ?_
                refine J_icmp_ne (pc := 128) hX (tgt := 159) (by decide) dX7_noted_128 (fun h41 => ?_) (fun h41 => ?_)
                · exact hk22
                · refine J_aload_n (pc := 131) hX 0 rfl dX7_noted_131 ?_
                  refine J_iload_n (pc := 132) hX 1 rfl dX7_noted_132 ?_
                  refine J_iload (pc := 133) hX 4 rfl dX7_noted_133 ?_
                  refine J_iconst (pc := 135) hX (v := (4 : Int32)) (by decide) dX7_noted_135 ?_
                  refine J_call1 (fun y42 e43 => ?_)
                  refine jrun_i (pc := 136) (jRunV hX s_X7_62 (ci := 7) (T := TX7) (N := 20) (As := [ji p0, ji v4, ji (4 : Int32)]) (rest := []) rfl (by decide) (C_X7_note Y hz0 t0 ht0 p0 v4 (4 : Int32) I0 L0 y42 e43) ht0 rfl rfl ⟨by decide, by decide⟩ ⟨Nat.le_of_ble_eq_true rfl, Nat.le_of_ble_eq_true rfl⟩ (Nat.le_of_ble_eq_true rfl) dX7_noted_136) ?_
                  refine J_aload_n (pc := 139) hX 0 rfl dX7_noted_139 ?_
                  refine J_iload_n (pc := 140) hX 1 rfl dX7_noted_140 ?_
                  refine J_iload_n (pc := 141) hX 3 rfl dX7_noted_141 ?_
                  refine J_iconst (pc := 142) hX (v := (4 : Int32)) (by decide) dX7_noted_142 ?_
                  refine J_call1 (fun y44 e45 => ?_)
                  refine jrun_i (pc := 143) (jRunV hX s_X7_62 (ci := 7) (T := TX7) (N := 20) (As := [ji p0, ji v3, ji (4 : Int32)]) (rest := [ji y42]) rfl (by decide) (C_X7_note Y hz0 t0 ht0 p0 v3 (4 : Int32) I0 L0 y44 e45) ht0 rfl rfl ⟨by decide, by decide⟩ ⟨Nat.le_of_ble_eq_true rfl, Nat.le_of_ble_eq_true rfl⟩ (Nat.le_of_ble_eq_true rfl) dX7_noted_143) ?_
                  refine J_vjoin (fun kq (y47 : Int32) => J Y Z 7 Qf (kq) 154 [(0, jr t0), (1, ji p0), (2, ji y1), (3, ji v3), (4, ji v4), (5, ji y15)] [ji y47] 0 0 NC shC rfC I0 L0) (fun y47 => ?_) (fun hj => ?_)
                  · try dsimp only
                    refine J_istore (pc := 154) hX (lo' := [(5, ji y47), (0, jr t0), (1, ji p0), (2, ji y1), (3, ji v3), (4, ji v4)]) (by decide) rfl dX7_noted_154 ?_
                    refine J_goto (pc := 156) hX (tgt := 217) (by decide) dX7_noted_156 ?_
                    refine J_sub [1, 2, 3, 4, 5, 0] rfl ?_
                    exact hk17 y47
                  try dsimp only at hj
                  refine J_icmp_leV (pc := 146) hX (tgt := 153) (by decide) dX7_noted_146 (fun h46 => ?_) (fun h46 => ?_)
                  · refine J_iconst (pc := 153) hX (v := (0 : Int32)) (by decide) dX7_noted_153 ?_
                    exact hj _
                  · refine J_iconst (pc := 149) hX (v := (1 : Int32)) (by decide) dX7_noted_149 ?_
                    refine J_goto (pc := 150) hX (tgt := 154) (by decide) dX7_noted_150 ?_
                    exact hj _
            refine J_if_ne (pc := 85) hX (tgt := 121) (by decide) dX7_noted_85 (fun h48 => ?_) (fun h48 => ?_)
            · exact hk21
            · refine J_iload_n (pc := 88) hX 2 rfl dX7_noted_88 ?_
              refine J_iconst (pc := 89) hX (v := (4 : Int32)) (by decide) dX7_noted_89 ?_
              refine J_icmp_ne (pc := 90) hX (tgt := 121) (by decide) dX7_noted_90 (fun h49 => ?_) (fun h49 => ?_)
              · exact hk21
              · refine J_aload_n (pc := 93) hX 0 rfl dX7_noted_93 ?_
                refine J_iload_n (pc := 94) hX 1 rfl dX7_noted_94 ?_
                refine J_iload (pc := 95) hX 4 rfl dX7_noted_95 ?_
                refine J_iconst (pc := 97) hX (v := (4 : Int32)) (by decide) dX7_noted_97 ?_
                refine J_call1 (fun y50 e51 => ?_)
                refine jrun_i (pc := 98) (jRunV hX s_X7_62 (ci := 7) (T := TX7) (N := 20) (As := [ji p0, ji v4, ji (4 : Int32)]) (rest := []) rfl (by decide) (C_X7_note Y hz0 t0 ht0 p0 v4 (4 : Int32) I0 L0 y50 e51) ht0 rfl rfl ⟨by decide, by decide⟩ ⟨Nat.le_of_ble_eq_true rfl, Nat.le_of_ble_eq_true rfl⟩ (Nat.le_of_ble_eq_true rfl) dX7_noted_98) ?_
                refine J_aload_n (pc := 101) hX 0 rfl dX7_noted_101 ?_
                refine J_iload_n (pc := 102) hX 1 rfl dX7_noted_102 ?_
                refine J_iload_n (pc := 103) hX 3 rfl dX7_noted_103 ?_
                refine J_iconst (pc := 104) hX (v := (4 : Int32)) (by decide) dX7_noted_104 ?_
                refine J_call1 (fun y52 e53 => ?_)
                refine jrun_i (pc := 105) (jRunV hX s_X7_62 (ci := 7) (T := TX7) (N := 20) (As := [ji p0, ji v3, ji (4 : Int32)]) (rest := [ji y50]) rfl (by decide) (C_X7_note Y hz0 t0 ht0 p0 v3 (4 : Int32) I0 L0 y52 e53) ht0 rfl rfl ⟨by decide, by decide⟩ ⟨Nat.le_of_ble_eq_true rfl, Nat.le_of_ble_eq_true rfl⟩ (Nat.le_of_ble_eq_true rfl) dX7_noted_105) ?_
                refine J_vjoin (fun kq (y55 : Int32) => J Y Z 7 Qf (kq) 116 [(0, jr t0), (1, ji p0), (2, ji y1), (3, ji v3), (4, ji v4), (5, ji y15)] [ji y55] 0 0 NC shC rfC I0 L0) (fun y55 => ?_) (fun hj => ?_)
                · try dsimp only
                  refine J_istore (pc := 116) hX (lo' := [(5, ji y55), (0, jr t0), (1, ji p0), (2, ji y1), (3, ji v3), (4, ji v4)]) (by decide) rfl dX7_noted_116 ?_
                  refine J_goto (pc := 118) hX (tgt := 217) (by decide) dX7_noted_118 ?_
                  refine J_sub [1, 2, 3, 4, 5, 0] rfl ?_
                  exact hk17 y55
                try dsimp only at hj
                refine J_icmp_geV (pc := 108) hX (tgt := 115) (by decide) dX7_noted_108 (fun h54 => ?_) (fun h54 => ?_)
                · refine J_iconst (pc := 115) hX (v := (0 : Int32)) (by decide) dX7_noted_115 ?_
                  exact hj _
                · refine J_iconst (pc := 111) hX (v := (1 : Int32)) (by decide) dX7_noted_111 ?_
                  refine J_goto (pc := 112) hX (tgt := 116) (by decide) dX7_noted_112 ?_
                  exact hj _
          refine J_if_ne (pc := 47) hX (tgt := 83) (by decide) dX7_noted_47 (fun h56 => ?_) (fun h56 => ?_)
          · refine J_sub [1, 2, 3, 4, 5, 0] rfl ?_
            exact hk20
          · refine J_iload_n (pc := 50) hX 3 rfl dX7_noted_50 ?_
            refine J_iconst (pc := 51) hX (v := (3 : Int32)) (by decide) dX7_noted_51 ?_
            refine J_icmp_ne (pc := 52) hX (tgt := 83) (by decide) dX7_noted_52 (fun h57 => ?_) (fun h57 => ?_)
            · refine J_sub [1, 2, 3, 4, 5, 0] rfl ?_
              exact hk20
            · refine J_aload_n (pc := 55) hX 1 rfl dX7_noted_55 ?_
              refine J_iload_n (pc := 56) hX 2 rfl dX7_noted_56 ?_
              refine J_iload (pc := 57) hX 5 rfl dX7_noted_57 ?_
              refine J_iconst (pc := 59) hX (v := (3 : Int32)) (by decide) dX7_noted_59 ?_
              refine J_call1 (fun y58 e59 => ?_)
              refine jrun_i (pc := 60) (jRunV hX s_X7_62 (ci := 7) (T := TX7) (N := 20) (As := [ji p0, ji v4, ji (3 : Int32)]) (rest := []) rfl (by decide) (C_X7_note Y hz0 t0 ht0 p0 v4 (3 : Int32) I0 L0 y58 e59) ht0 rfl rfl ⟨by decide, by decide⟩ ⟨Nat.le_of_ble_eq_true rfl, Nat.le_of_ble_eq_true rfl⟩ (Nat.le_of_ble_eq_true rfl) dX7_noted_60) ?_
              refine J_aload_n (pc := 63) hX 1 rfl dX7_noted_63 ?_
              refine J_iload_n (pc := 64) hX 2 rfl dX7_noted_64 ?_
              refine J_iload_n (pc := 65) hX 4 rfl dX7_noted_65 ?_
              refine J_iconst (pc := 66) hX (v := (3 : Int32)) (by decide) dX7_noted_66 ?_
              refine J_call1 (fun y60 e61 => ?_)
              refine jrun_i (pc := 67) (jRunV hX s_X7_62 (ci := 7) (T := TX7) (N := 20) (As := [ji p0, ji v3, ji (3 : Int32)]) (rest := [ji y58]) rfl (by decide) (C_X7_note Y hz0 t0 ht0 p0 v3 (3 : Int32) I0 L0 y60 e61) ht0 rfl rfl ⟨by decide, by decide⟩ ⟨Nat.le_of_ble_eq_true rfl, Nat.le_of_ble_eq_true rfl⟩ (Nat.le_of_ble_eq_true rfl) dX7_noted_67) ?_
              refine J_vjoin (fun kq (y63 : Int32) => J Y Z 7 Qf (kq) 78 [(5, ji y15), (0, jr t0), (1, ji p0), (2, ji y1), (3, ji v3), (4, ji v4)] [ji y63] 0 0 NC shC rfC I0 L0) (fun y63 => ?_) (fun hj => ?_)
              · try dsimp only
                refine J_istore (pc := 78) hX (lo' := [(5, ji y63), (0, jr t0), (1, ji p0), (2, ji y1), (3, ji v3), (4, ji v4)]) (by decide) rfl dX7_noted_78 ?_
                refine J_goto (pc := 80) hX (tgt := 217) (by decide) dX7_noted_80 ?_
                refine J_sub [1, 2, 3, 4, 5, 0] rfl ?_
                exact hk17 y63
              try dsimp only at hj
              refine J_icmp_geV (pc := 70) hX (tgt := 77) (by decide) dX7_noted_70 (fun h62 => ?_) (fun h62 => ?_)
              · refine J_iconst (pc := 77) hX (v := (0 : Int32)) (by decide) dX7_noted_77 ?_
                exact hj _
              · refine J_iconst (pc := 73) hX (v := (1 : Int32)) (by decide) dX7_noted_73 ?_
                refine J_goto (pc := 74) hX (tgt := 78) (by decide) dX7_noted_74 ?_
                exact hj _
        try dsimp only at hj
        refine J_if_geV (pc := 35) hX (tgt := 42) (by decide) dX7_noted_35 (fun h14 => ?_) (fun h14 => ?_)
        · refine J_iconst (pc := 42) hX (v := (0 : Int32)) (by decide) dX7_noted_42 ?_
          exact hj _
        · refine J_iconst (pc := 38) hX (v := (1 : Int32)) (by decide) dX7_noted_38 ?_
          refine J_goto (pc := 39) hX (tgt := 43) (by decide) dX7_noted_39 ?_
          exact hj _
  refine J_sub [3, 4, 2, 1, 0] rfl ?_
  exact lhg5 1000 (-1 : Int32) (0 : Int32)
theorem C_X7_noted (Y : jY) (hz0 : Y.zf = false) (t0 : Nat) (ht0 : shC t0 = 8) (p0 : Int32) (I0 : jI) (L0 : jL) (r : Int32) (h : X7_noted t0 p0 I0 = some r) : jMet Y yX7_noted cX7_noted 7 (some .int) 3 125 0 0 [jr t0, ji p0] NC shC rfC I0 L0 (some (ji r)) NC shC rfC I0 L0 :=
  jmet_of _ _ h (fun Z r => jQ Y Z 0 0 (some (ji r)) NC shC rfC I0 L0) (fun _ => rfl) (by decide) (Nat.le_of_ble_eq_true rfl) (fun Z hX => W_X7_noted hz0 t0 ht0 p0 I0 L0 hX (fun _ => rfl))
def X7_victim_F1 (t0 : Nat) (p0 : Int32) (k9 : Int32 → jI → Option (Int32 × jI)) (g19 : Int32 → jI → Option (Int32 × jI)) : Int32 → jI → Option (Int32 × jI) := fun (v17 : Int32) (I18 : jI) =>
(X7_note t0 p0 v17 (6 : Int32) I18).bind (fun (y20 : Int32) =>
if y20 = (1 : Int32) then (
(X7_slotAt p0 v17 (6 : Int32)).bind (fun (y23 : Int32) =>
if jin y23 784 then jlet (jup I18 (rfC t0 0) (y23).toNatClampNeg (0 : Int32)) (fun (I26 : jI) =>
(X7_of t0 p0 (0 : Int32) I26).bind (fun (y27 : Int32) =>
if y27 = 0 then none else (
jlet ((jrem (v17 + (1 : Int32)) y27)) (fun (y30 : Int32) =>
g19 y30 I26)))) else none))
else (
k9 v17 I18))
def X7_victim (t0 : Nat) (p0 : Int32) (I0 : jI) : Option (Int32 × jI) :=
(X7_of t0 p0 (2 : Int32) I0).bind (fun (y1 : Int32) =>
if (7 : Int32) ≤ y1 then (
if y1 = (8 : Int32) then (
(X7_at p0 (9 : Int32)).bind (fun (y31 : Int32) =>
if jin y31 784 then (
if jin y31 784 then jlet (jup I0 (rfC t0 0) (y31).toNatClampNeg ((I0 (rfC t0 0) (y31).toNatClampNeg) + (1 : Int32))) (fun (I35 : jI) =>
(X7_of t0 p0 (0 : Int32) I35).bind (fun (y36 : Int32) =>
jb2 (X7_draw t0 y36 I35) (fun (y38 : Int32) (I39 : jI) =>
some (y38, I39)))) else none) else none))
else (
(X7_of t0 p0 (3 : Int32) I0).bind (fun (y5 : Int32) =>
jlet (fun (v7 : Int32) (I8 : jI) =>
(X7_at p0 (3 : Int32)).bind (fun (y10 : Int32) =>
(X7_of t0 p0 (0 : Int32) I8).bind (fun (y12 : Int32) =>
if y12 = 0 then none else (
if jin y10 784 then jlet (jup I8 (rfC t0 0) (y10).toNatClampNeg (jrem (v7 + (1 : Int32)) y12)) (fun (I16 : jI) =>
some (v7, I16)) else none)))) (fun (k9 : Int32 → jI → Option (Int32 × jI)) =>
jfx (X7_victim_F1 t0 p0 k9) (fun _ _ => none) 1000 y5 I0))))
else (
(X7_noted t0 p0 I0).bind (fun (y41 : Int32) =>
some (y41, I0))))
set_option maxRecDepth 20000 in
set_option maxHeartbeats 4000000 in
theorem W_X7_victim {Y : jY} {Z : jZ} {Qf : Int32 × jI → State → Prop} (hz0 : Y.zf = false) (t0 : Nat) (ht0 : shC t0 = 8) (p0 : Int32) (I0 : jI) (L0 : jL) (hX : jOK Y Z RX7 cX7_victim 4 "victim" (some .int) 4 151 0 0) (hQ : ∀ r : Int32 × jI, Qf r = jQ Y Z 0 0 (some (ji r.1)) NC shC rfC r.2 L0) : J Y Z 4 Qf (X7_victim t0 p0 I0) 0 [(0, jr t0), (1, ji p0)] [] 0 0 NC shC rfC I0 L0 := by
  unfold X7_victim
  refine J_aload_n (pc := 0) hX 0 rfl dX7_victim_0 ?_
  refine J_iload_n (pc := 1) hX 1 rfl dX7_victim_1 ?_
  refine J_iconst (pc := 2) hX (v := (2 : Int32)) (by decide) dX7_victim_2 ?_
  refine J_call1 (fun y1 e2 => ?_)
  refine jrun_i (pc := 3) (jRunV hX s_X7_59 (ci := 7) (T := TX7) (N := 20) (As := [ji p0, ji (2 : Int32)]) (rest := []) rfl (by decide) (C_X7_of Y hz0 t0 ht0 p0 (2 : Int32) I0 L0 y1 e2) ht0 rfl rfl ⟨by decide, by decide⟩ ⟨Nat.le_of_ble_eq_true rfl, Nat.le_of_ble_eq_true rfl⟩ (Nat.le_of_ble_eq_true rfl) dX7_victim_3) ?_
  refine J_istore_n (pc := 6) hX (lo' := [(2, ji y1), (0, jr t0), (1, ji p0)]) (by decide) rfl dX7_victim_6 ?_
  refine J_iload_n (pc := 7) hX 0 rfl dX7_victim_7 ?_
  refine J_bipush (pc := 8) hX (v := (7 : Int32)) (by decide) dX7_victim_8 ?_
  refine J_icmp_ge (pc := 10) hX (tgt := 19) (by decide) dX7_victim_10 (fun h3 => ?_) (fun h3 => ?_)
  · refine J_iload_n (pc := 19) hX 0 rfl dX7_victim_19 ?_
    refine J_bipush (pc := 20) hX (v := (8 : Int32)) (by decide) dX7_victim_20 ?_
    refine J_icmp_ne (pc := 22) hX (tgt := 51) (by decide) dX7_victim_22 (fun h4 => ?_) (fun h4 => ?_)
    · refine J_aload_n (pc := 51) hX 1 rfl dX7_victim_51 ?_
      refine J_iload_n (pc := 52) hX 2 rfl dX7_victim_52 ?_
      refine J_iconst (pc := 53) hX (v := (3 : Int32)) (by decide) dX7_victim_53 ?_
      refine J_call1 (fun y5 e6 => ?_)
      refine jrun_i (pc := 54) (jRunV hX s_X7_59 (ci := 7) (T := TX7) (N := 20) (As := [ji p0, ji (3 : Int32)]) (rest := []) rfl (by decide) (C_X7_of Y hz0 t0 ht0 p0 (3 : Int32) I0 L0 y5 e6) ht0 rfl rfl ⟨by decide, by decide⟩ ⟨Nat.le_of_ble_eq_true rfl, Nat.le_of_ble_eq_true rfl⟩ (Nat.le_of_ble_eq_true rfl) dX7_victim_54) ?_
      refine J_istore_n (pc := 57) hX (lo' := [(3, ji y5), (2, ji y1), (0, jr t0), (1, ji p0)]) (by decide) rfl dX7_victim_57 ?_
      refine J_join (fun (k9 : Int32 → jI → Option (Int32 × jI)) => ∀ (v7 : Int32) (I8 : jI), J Y Z 4 Qf (k9 v7 I8) 97 [(0, jr t0), (1, ji p0), (3, ji v7)] [] 0 0 NC shC rfC I8 L0) ?_ (fun k9 hk9 => ?_)
      · intro v7 I8
        try dsimp only
        refine J_aload_n (pc := 97) hX 0 rfl dX7_victim_97 ?_
        refine g_X7_7 (pc := 98) hX ht0 dX7_victim_98 ?_
        refine J_iload_n (pc := 101) hX 1 rfl dX7_victim_101 ?_
        refine J_iconst (pc := 102) hX (v := (3 : Int32)) (by decide) dX7_victim_102 ?_
        refine J_call1 (fun y10 e11 => ?_)
        refine jrun_i (pc := 103) (jRunS hX s_X7_51 (As := [ji p0, ji (3 : Int32)]) (rest := [jr (rfC t0 0)]) (C_X7_at Y hz0 p0 (3 : Int32) I8 L0 y10 e11) rfl rfl ⟨by decide, by decide⟩ ⟨Nat.le_of_ble_eq_true rfl, Nat.le_of_ble_eq_true rfl⟩ (Nat.le_of_ble_eq_true rfl) dX7_victim_103) ?_
        refine J_iload_n (pc := 106) hX 2 rfl dX7_victim_106 ?_
        refine J_iconst (pc := 107) hX (v := (1 : Int32)) (by decide) dX7_victim_107 ?_
        refine J_iadd (pc := 108) hX dX7_victim_108 ?_
        refine J_aload_n (pc := 109) hX 0 rfl dX7_victim_109 ?_
        refine J_iload_n (pc := 110) hX 1 rfl dX7_victim_110 ?_
        refine J_iconst (pc := 111) hX (v := (0 : Int32)) (by decide) dX7_victim_111 ?_
        refine J_call1 (fun y12 e13 => ?_)
        refine jrun_i (pc := 112) (jRunV hX s_X7_59 (ci := 7) (T := TX7) (N := 20) (As := [ji p0, ji (0 : Int32)]) (rest := [ji (v7 + (1 : Int32)), ji y10, jr (rfC t0 0)]) rfl (by decide) (C_X7_of Y hz0 t0 ht0 p0 (0 : Int32) I8 L0 y12 e13) ht0 rfl rfl ⟨by decide, by decide⟩ ⟨Nat.le_of_ble_eq_true rfl, Nat.le_of_ble_eq_true rfl⟩ (Nat.le_of_ble_eq_true rfl) dX7_victim_112) ?_
        refine J_irem (pc := 115) hX dX7_victim_115 (fun h14 => ?_)
        refine J_iast (pc := 116) hX (N := 784) (fs_7_0 t0 ht0) (by decide) dX7_victim_116 (fun h15 I16 => ?_)
        refine J_iload_n (pc := 117) hX 2 rfl dX7_victim_117 ?_
        exact J_iret (pc := 118) hX (hQ _) dX7_victim_118
      have lhg19 : ∀ mq : Nat, ∀ (v17 : Int32) (I18 : jI), J Y Z 4 Qf (jfx (X7_victim_F1 t0 p0 k9) (fun _ _ => none) mq v17 I18) 58 [(0, jr t0), (1, ji p0), (3, ji v17)] [] 0 0 NC shC rfC I18 L0 := by
        intro mq
        refine jfx_J (fun (_ : Nat) (g19 : Int32 → jI → Option (Int32 × jI)) => ∀ (v17 : Int32) (I18 : jI), J Y Z 4 Qf (g19 v17 I18) 58 [(0, jr t0), (1, ji p0), (3, ji v17)] [] 0 0 NC shC rfC I18 L0) ?_ (fun _ g19 hg19 => ?_) mq
        · intro v17 I18
          exact J_none
        intro v17 I18
        unfold X7_victim_F1
        try dsimp only
        refine J_aload_n (pc := 58) hX 0 rfl dX7_victim_58 ?_
        refine J_iload_n (pc := 59) hX 1 rfl dX7_victim_59 ?_
        refine J_iload_n (pc := 60) hX 2 rfl dX7_victim_60 ?_
        refine J_bipush (pc := 61) hX (v := (6 : Int32)) (by decide) dX7_victim_61 ?_
        refine J_call1 (fun y20 e21 => ?_)
        refine jrun_i (pc := 63) (jRunV hX s_X7_62 (ci := 7) (T := TX7) (N := 20) (As := [ji p0, ji v17, ji (6 : Int32)]) (rest := []) rfl (by decide) (C_X7_note Y hz0 t0 ht0 p0 v17 (6 : Int32) I18 L0 y20 e21) ht0 rfl rfl ⟨by decide, by decide⟩ ⟨Nat.le_of_ble_eq_true rfl, Nat.le_of_ble_eq_true rfl⟩ (Nat.le_of_ble_eq_true rfl) dX7_victim_63) ?_
        refine J_iconst (pc := 66) hX (v := (1 : Int32)) (by decide) dX7_victim_66 ?_
        refine J_icmp_ne (pc := 67) hX (tgt := 97) (by decide) dX7_victim_67 (fun h22 => ?_) (fun h22 => ?_)
        · exact hk9 v17 I18
        · refine J_aload_n (pc := 70) hX 0 rfl dX7_victim_70 ?_
          refine g_X7_7 (pc := 71) hX ht0 dX7_victim_71 ?_
          refine J_iload_n (pc := 74) hX 1 rfl dX7_victim_74 ?_
          refine J_iload_n (pc := 75) hX 2 rfl dX7_victim_75 ?_
          refine J_bipush (pc := 76) hX (v := (6 : Int32)) (by decide) dX7_victim_76 ?_
          refine J_call1 (fun y23 e24 => ?_)
          refine jrun_i (pc := 78) (jRunS hX s_X7_55 (As := [ji p0, ji v17, ji (6 : Int32)]) (rest := [jr (rfC t0 0)]) (C_X7_slotAt Y hz0 p0 v17 (6 : Int32) I18 L0 y23 e24) rfl rfl ⟨by decide, by decide⟩ ⟨Nat.le_of_ble_eq_true rfl, Nat.le_of_ble_eq_true rfl⟩ (Nat.le_of_ble_eq_true rfl) dX7_victim_78) ?_
          refine J_iconst (pc := 81) hX (v := (0 : Int32)) (by decide) dX7_victim_81 ?_
          refine J_iast (pc := 82) hX (N := 784) (fs_7_0 t0 ht0) (by decide) dX7_victim_82 (fun h25 I26 => ?_)
          refine J_iload_n (pc := 83) hX 2 rfl dX7_victim_83 ?_
          refine J_iconst (pc := 84) hX (v := (1 : Int32)) (by decide) dX7_victim_84 ?_
          refine J_iadd (pc := 85) hX dX7_victim_85 ?_
          refine J_aload_n (pc := 86) hX 0 rfl dX7_victim_86 ?_
          refine J_iload_n (pc := 87) hX 1 rfl dX7_victim_87 ?_
          refine J_iconst (pc := 88) hX (v := (0 : Int32)) (by decide) dX7_victim_88 ?_
          refine J_call1 (fun y27 e28 => ?_)
          refine jrun_i (pc := 89) (jRunV hX s_X7_59 (ci := 7) (T := TX7) (N := 20) (As := [ji p0, ji (0 : Int32)]) (rest := [ji (v17 + (1 : Int32))]) rfl (by decide) (C_X7_of Y hz0 t0 ht0 p0 (0 : Int32) I26 L0 y27 e28) ht0 rfl rfl ⟨by decide, by decide⟩ ⟨Nat.le_of_ble_eq_true rfl, Nat.le_of_ble_eq_true rfl⟩ (Nat.le_of_ble_eq_true rfl) dX7_victim_89) ?_
          refine J_irem (pc := 92) hX dX7_victim_92 (fun h29 => ?_)
          refine J_leti (fun y30 => ?_)
          refine J_istore_n (pc := 93) hX (lo' := [(3, ji y30), (0, jr t0), (1, ji p0)]) (by decide) rfl dX7_victim_93 ?_
          refine J_goto (pc := 94) hX (tgt := 58) (by decide) dX7_victim_94 ?_
          refine J_sub [1, 2, 0] rfl ?_
          exact hg19 y30 I26
      refine J_sub [2, 3, 0] rfl ?_
      exact lhg19 1000 y5 I0
    · refine J_aload_n (pc := 25) hX 1 rfl dX7_victim_25 ?_
      refine g_X7_7 (pc := 26) hX ht0 dX7_victim_26 ?_
      refine J_iload_n (pc := 29) hX 2 rfl dX7_victim_29 ?_
      refine J_bipush (pc := 30) hX (v := (9 : Int32)) (by decide) dX7_victim_30 ?_
      refine J_call1 (fun y31 e32 => ?_)
      refine jrun_i (pc := 32) (jRunS hX s_X7_51 (As := [ji p0, ji (9 : Int32)]) (rest := [jr (rfC t0 0)]) (C_X7_at Y hz0 p0 (9 : Int32) I0 L0 y31 e32) rfl rfl ⟨by decide, by decide⟩ ⟨Nat.le_of_ble_eq_true rfl, Nat.le_of_ble_eq_true rfl⟩ (Nat.le_of_ble_eq_true rfl) dX7_victim_32) ?_
      refine J_dup2 (pc := 35) hX rfl rfl dX7_victim_35 ?_
      refine J_iald (pc := 36) hX (N := 784) (fs_7_0 t0 ht0) (by decide) dX7_victim_36 (fun h33 => ?_)
      refine J_iconst (pc := 37) hX (v := (1 : Int32)) (by decide) dX7_victim_37 ?_
      refine J_iadd (pc := 38) hX dX7_victim_38 ?_
      refine J_iast (pc := 39) hX (N := 784) (fs_7_0 t0 ht0) (by decide) dX7_victim_39 (fun h34 I35 => ?_)
      refine J_aload_n (pc := 40) hX 1 rfl dX7_victim_40 ?_
      refine J_aload_n (pc := 41) hX 1 rfl dX7_victim_41 ?_
      refine J_iload_n (pc := 42) hX 2 rfl dX7_victim_42 ?_
      refine J_iconst (pc := 43) hX (v := (0 : Int32)) (by decide) dX7_victim_43 ?_
      refine J_call1 (fun y36 e37 => ?_)
      refine jrun_i (pc := 44) (jRunV hX s_X7_59 (ci := 7) (T := TX7) (N := 20) (As := [ji p0, ji (0 : Int32)]) (rest := [jr t0]) rfl (by decide) (C_X7_of Y hz0 t0 ht0 p0 (0 : Int32) I35 L0 y36 e37) ht0 rfl rfl ⟨by decide, by decide⟩ ⟨Nat.le_of_ble_eq_true rfl, Nat.le_of_ble_eq_true rfl⟩ (Nat.le_of_ble_eq_true rfl) dX7_victim_44) ?_
      refine J_call2 (fun y38 I39 e40 => ?_)
      refine jrun_i (pc := 47) (jRunV hX s_X7_70 (ci := 7) (T := TX7) (N := 20) (As := [ji y36]) (rest := []) rfl (by decide) (C_X7_draw Y hz0 t0 ht0 y36 I35 L0 y38 I39 e40) ht0 rfl rfl ⟨by decide, by decide⟩ ⟨Nat.le_of_ble_eq_true rfl, Nat.le_of_ble_eq_true rfl⟩ (Nat.le_of_ble_eq_true rfl) dX7_victim_47) ?_
      exact J_iret (pc := 50) hX (hQ _) dX7_victim_50
  · refine J_aload_n (pc := 13) hX 1 rfl dX7_victim_13 ?_
    refine J_iload_n (pc := 14) hX 2 rfl dX7_victim_14 ?_
    refine J_call1 (fun y41 e42 => ?_)
    refine jrun_i (pc := 15) (jRunV hX s_X7_66 (ci := 7) (T := TX7) (N := 20) (As := [ji p0]) (rest := []) rfl (by decide) (C_X7_noted Y hz0 t0 ht0 p0 I0 L0 y41 e42) ht0 rfl rfl ⟨by decide, by decide⟩ ⟨Nat.le_of_ble_eq_true rfl, Nat.le_of_ble_eq_true rfl⟩ (Nat.le_of_ble_eq_true rfl) dX7_victim_15) ?_
    exact J_iret (pc := 18) hX (hQ _) dX7_victim_18
theorem C_X7_victim (Y : jY) (hz0 : Y.zf = false) (t0 : Nat) (ht0 : shC t0 = 8) (p0 : Int32) (I0 : jI) (L0 : jL) (r : Int32) (I1 : jI) (h : X7_victim t0 p0 I0 = some (r, I1)) : jMet Y yX7_victim cX7_victim 4 (some .int) 4 151 0 0 [jr t0, ji p0] NC shC rfC I0 L0 (some (ji r)) NC shC rfC I1 L0 :=
  jmet_of _ _ h (fun Z r => jQ Y Z 0 0 (some (ji r.1)) NC shC rfC r.2 L0) (fun _ => rfl) (by decide) (Nat.le_of_ble_eq_true rfl) (fun Z hX => W_X7_victim hz0 t0 ht0 p0 I0 L0 hX (fun _ => rfl))
def X7_flushes_F1 (t0 : Nat) (p1 : Int32) (I5 : jI) (k7 : Option (jI)) (k15 : Int32 → Int32 → Option (jI)) (g25 : Int32 → Option (jI)) : Int32 → Option (jI) := fun (v24 : Int32) =>
if jin (688 : Int32) 784 then (
if (I5 (rfC t0 0) ((688 : Int32)).toNatClampNeg) ≤ v24 then (
k7)
else (
(X7_found t0 v24 p1 I5).bind (fun (y28 : Int32) =>
if y28 < 0 then (
g25 (v24 + (1 : Int32)))
else (
k15 v24 y28)))) else none
def X7_flushes (t0 : Nat) (p0 : Int32) (p1 : Int32) (p2 : Int32) (I0 : jI) : Option (jI) :=
(X7_at p0 (7 : Int32)).bind (fun (y1 : Int32) =>
if jin y1 784 then (
if jin y1 784 then jlet (jup I0 (rfC t0 0) (y1).toNatClampNeg ((I0 (rfC t0 0) (y1).toNatClampNeg) + (1 : Int32))) (fun (I5 : jI) =>
jlet ((p0 + (1 : Int32))) (fun (y6 : Int32) =>
jlet (
if jin p1 784 then jlet (jup I5 (rfC t0 0) (p1).toNatClampNeg p2) (fun (I9 : jI) =>
if jin (697 : Int32) 784 then (
if jin (697 : Int32) 784 then jlet (jup I9 (rfC t0 0) ((697 : Int32)).toNatClampNeg ((I9 (rfC t0 0) ((697 : Int32)).toNatClampNeg) + (1 : Int32))) (fun (I12 : jI) =>
some I12) else none) else none) else none) (fun (k7 : Option (jI)) =>
jlet (fun (v13 : Int32) (v14 : Int32) =>
(X7_slotAt v13 v14 (1 : Int32)).bind (fun (y16 : Int32) =>
if jin y16 784 then jlet (jup I5 (rfC t0 0) (y16).toNatClampNeg p2) (fun (I19 : jI) =>
(X7_slotAt v13 v14 (2 : Int32)).bind (fun (y20 : Int32) =>
if jin y20 784 then jlet (jup I19 (rfC t0 0) (y20).toNatClampNeg (1 : Int32)) (fun (I23 : jI) =>
some I23) else none)) else none)) (fun (k15 : Int32 → Int32 → Option (jI)) =>
jfx (X7_flushes_F1 t0 p1 I5 k7 k15) (fun _ => none) 1000 y6)))) else none) else none)
set_option maxRecDepth 20000 in
set_option maxHeartbeats 4000000 in
theorem W_X7_flushes {Y : jY} {Z : jZ} {Qf : jI → State → Prop} (hz0 : Y.zf = false) (t0 : Nat) (ht0 : shC t0 = 8) (p0 : Int32) (p1 : Int32) (p2 : Int32) (I0 : jI) (L0 : jL) (hX : jOK Y Z RX7 cX7_flushes 6 "flushes" none 4 148 0 0) (hQ : ∀ r : jI, Qf r = jQ Y Z 0 0 none NC shC rfC r L0) : J Y Z 6 Qf (X7_flushes t0 p0 p1 p2 I0) 0 [(0, jr t0), (1, ji p0), (2, ji p1), (3, ji p2)] [] 0 0 NC shC rfC I0 L0 := by
  unfold X7_flushes
  refine J_aload_n (pc := 0) hX 0 rfl dX7_flushes_0 ?_
  refine g_X7_7 (pc := 1) hX ht0 dX7_flushes_1 ?_
  refine J_iload_n (pc := 4) hX 1 rfl dX7_flushes_4 ?_
  refine J_bipush (pc := 5) hX (v := (7 : Int32)) (by decide) dX7_flushes_5 ?_
  refine J_call1 (fun y1 e2 => ?_)
  refine jrun_i (pc := 7) (jRunS hX s_X7_51 (As := [ji p0, ji (7 : Int32)]) (rest := [jr (rfC t0 0)]) (C_X7_at Y hz0 p0 (7 : Int32) I0 L0 y1 e2) rfl rfl ⟨by decide, by decide⟩ ⟨Nat.le_of_ble_eq_true rfl, Nat.le_of_ble_eq_true rfl⟩ (Nat.le_of_ble_eq_true rfl) dX7_flushes_7) ?_
  refine J_dup2 (pc := 10) hX rfl rfl dX7_flushes_10 ?_
  refine J_iald (pc := 11) hX (N := 784) (fs_7_0 t0 ht0) (by decide) dX7_flushes_11 (fun h3 => ?_)
  refine J_iconst (pc := 12) hX (v := (1 : Int32)) (by decide) dX7_flushes_12 ?_
  refine J_iadd (pc := 13) hX dX7_flushes_13 ?_
  refine J_iast (pc := 14) hX (N := 784) (fs_7_0 t0 ht0) (by decide) dX7_flushes_14 (fun h4 I5 => ?_)
  refine J_iload_n (pc := 15) hX 1 rfl dX7_flushes_15 ?_
  refine J_iconst (pc := 16) hX (v := (1 : Int32)) (by decide) dX7_flushes_16 ?_
  refine J_iadd (pc := 17) hX dX7_flushes_17 ?_
  refine J_leti (fun y6 => ?_)
  refine J_istore (pc := 18) hX (lo' := [(4, ji y6), (0, jr t0), (1, ji p0), (2, ji p1), (3, ji p2)]) (by decide) rfl dX7_flushes_18 ?_
  refine J_join (fun (k7 : Option (jI)) => J Y Z 6 Qf (k7) 82 [(0, jr t0), (2, ji p1), (3, ji p2)] [] 0 0 NC shC rfC I5 L0) ?_ (fun k7 hk7 => ?_)
  · refine J_aload_n (pc := 82) hX 0 rfl dX7_flushes_82 ?_
    refine g_X7_7 (pc := 83) hX ht0 dX7_flushes_83 ?_
    refine J_iload_n (pc := 86) hX 1 rfl dX7_flushes_86 ?_
    refine J_iload_n (pc := 87) hX 2 rfl dX7_flushes_87 ?_
    refine J_iast (pc := 88) hX (N := 784) (fs_7_0 t0 ht0) (by decide) dX7_flushes_88 (fun h8 I9 => ?_)
    refine J_aload_n (pc := 89) hX 0 rfl dX7_flushes_89 ?_
    refine g_X7_7 (pc := 90) hX ht0 dX7_flushes_90 ?_
    refine J_sipush (pc := 93) hX (v := (697 : Int32)) (by decide) dX7_flushes_93 ?_
    refine J_dup2 (pc := 96) hX rfl rfl dX7_flushes_96 ?_
    refine J_iald (pc := 97) hX (N := 784) (fs_7_0 t0 ht0) (by decide) dX7_flushes_97 (fun h10 => ?_)
    refine J_iconst (pc := 98) hX (v := (1 : Int32)) (by decide) dX7_flushes_98 ?_
    refine J_iadd (pc := 99) hX dX7_flushes_99 ?_
    refine J_iast (pc := 100) hX (N := 784) (fs_7_0 t0 ht0) (by decide) dX7_flushes_100 (fun h11 I12 => ?_)
    exact J_vret (pc := 101) hX (hQ _) dX7_flushes_101
  refine J_join (fun (k15 : Int32 → Int32 → Option (jI)) => ∀ (v13 : Int32) (v14 : Int32), J Y Z 6 Qf (k15 v13 v14) 47 [(0, jr t0), (3, ji p2), (4, ji v13), (5, ji v14)] [] 0 0 NC shC rfC I5 L0) ?_ (fun k15 hk15 => ?_)
  · intro v13 v14
    try dsimp only
    refine J_aload_n (pc := 47) hX 0 rfl dX7_flushes_47 ?_
    refine g_X7_7 (pc := 48) hX ht0 dX7_flushes_48 ?_
    refine J_iload (pc := 51) hX 2 rfl dX7_flushes_51 ?_
    refine J_iload (pc := 53) hX 3 rfl dX7_flushes_53 ?_
    refine J_iconst (pc := 55) hX (v := (1 : Int32)) (by decide) dX7_flushes_55 ?_
    refine J_call1 (fun y16 e17 => ?_)
    refine jrun_i (pc := 56) (jRunS hX s_X7_55 (As := [ji v13, ji v14, ji (1 : Int32)]) (rest := [jr (rfC t0 0)]) (C_X7_slotAt Y hz0 v13 v14 (1 : Int32) I5 L0 y16 e17) rfl rfl ⟨by decide, by decide⟩ ⟨Nat.le_of_ble_eq_true rfl, Nat.le_of_ble_eq_true rfl⟩ (Nat.le_of_ble_eq_true rfl) dX7_flushes_56) ?_
    refine J_iload_n (pc := 59) hX 1 rfl dX7_flushes_59 ?_
    refine J_iast (pc := 60) hX (N := 784) (fs_7_0 t0 ht0) (by decide) dX7_flushes_60 (fun h18 I19 => ?_)
    refine J_aload_n (pc := 61) hX 0 rfl dX7_flushes_61 ?_
    refine g_X7_7 (pc := 62) hX ht0 dX7_flushes_62 ?_
    refine J_iload (pc := 65) hX 2 rfl dX7_flushes_65 ?_
    refine J_iload (pc := 67) hX 3 rfl dX7_flushes_67 ?_
    refine J_iconst (pc := 69) hX (v := (2 : Int32)) (by decide) dX7_flushes_69 ?_
    refine J_call1 (fun y20 e21 => ?_)
    refine jrun_i (pc := 70) (jRunS hX s_X7_55 (As := [ji v13, ji v14, ji (2 : Int32)]) (rest := [jr (rfC t0 0)]) (C_X7_slotAt Y hz0 v13 v14 (2 : Int32) I19 L0 y20 e21) rfl rfl ⟨by decide, by decide⟩ ⟨Nat.le_of_ble_eq_true rfl, Nat.le_of_ble_eq_true rfl⟩ (Nat.le_of_ble_eq_true rfl) dX7_flushes_70) ?_
    refine J_iconst (pc := 73) hX (v := (1 : Int32)) (by decide) dX7_flushes_73 ?_
    refine J_iast (pc := 74) hX (N := 784) (fs_7_0 t0 ht0) (by decide) dX7_flushes_74 (fun h22 I23 => ?_)
    exact J_vret (pc := 75) hX (hQ _) dX7_flushes_75
  have lhg25 : ∀ mq : Nat, ∀ (v24 : Int32), J Y Z 6 Qf (jfx (X7_flushes_F1 t0 p1 I5 k7 k15) (fun _ => none) mq v24) 20 [(0, jr t0), (2, ji p1), (3, ji p2), (4, ji v24)] [] 0 0 NC shC rfC I5 L0 := by
    intro mq
    refine jfx_J (fun (_ : Nat) (g25 : Int32 → Option (jI)) => ∀ (v24 : Int32), J Y Z 6 Qf (g25 v24) 20 [(0, jr t0), (2, ji p1), (3, ji p2), (4, ji v24)] [] 0 0 NC shC rfC I5 L0) ?_ (fun _ g25 hg25 => ?_) mq
    · intro v24
      exact J_none
    intro v24
    unfold X7_flushes_F1
    try dsimp only
    refine J_iload (pc := 20) hX 3 rfl dX7_flushes_20 ?_
    refine J_aload_n (pc := 22) hX 0 rfl dX7_flushes_22 ?_
    refine g_X7_7 (pc := 23) hX ht0 dX7_flushes_23 ?_
    refine J_sipush (pc := 26) hX (v := (688 : Int32)) (by decide) dX7_flushes_26 ?_
    refine J_iald (pc := 29) hX (N := 784) (fs_7_0 t0 ht0) (by decide) dX7_flushes_29 (fun h26 => ?_)
    refine J_icmp_ge (pc := 30) hX (tgt := 82) (by decide) dX7_flushes_30 (fun h27 => ?_) (fun h27 => ?_)
    · refine J_sub [0, 1, 2] rfl ?_
      exact hk7
    · refine J_aload_n (pc := 33) hX 0 rfl dX7_flushes_33 ?_
      refine J_iload (pc := 34) hX 3 rfl dX7_flushes_34 ?_
      refine J_iload_n (pc := 36) hX 1 rfl dX7_flushes_36 ?_
      refine J_call1 (fun y28 e29 => ?_)
      refine jrun_i (pc := 37) (jRunV hX s_X7_73 (ci := 7) (T := TX7) (N := 20) (As := [ji v24, ji p1]) (rest := []) rfl (by decide) (C_X7_found Y hz0 t0 ht0 v24 p1 I5 L0 y28 e29) ht0 rfl rfl ⟨by decide, by decide⟩ ⟨Nat.le_of_ble_eq_true rfl, Nat.le_of_ble_eq_true rfl⟩ (Nat.le_of_ble_eq_true rfl) dX7_flushes_37) ?_
      refine J_istore (pc := 40) hX (lo' := [(5, ji y28), (0, jr t0), (2, ji p1), (3, ji p2), (4, ji v24)]) (by decide) rfl dX7_flushes_40 ?_
      refine J_iload (pc := 42) hX 0 rfl dX7_flushes_42 ?_
      refine J_if_lt (pc := 44) hX (tgt := 76) (by decide) dX7_flushes_44 (fun h30 => ?_) (fun h30 => ?_)
      · refine J_iinc (pc := 76) hX (v := (v24 + (1 : Int32))) (lo' := [(4, ji (v24 + (1 : Int32))), (5, ji y28), (0, jr t0), (2, ji p1), (3, ji p2)]) 4 rfl (by rfl) (by decide) rfl dX7_flushes_76 ?_
        refine J_goto (pc := 79) hX (tgt := 20) (by decide) dX7_flushes_79 ?_
        refine J_sub [2, 3, 4, 0] rfl ?_
        exact hg25 (v24 + (1 : Int32))
      · refine J_sub [1, 3, 4, 0] rfl ?_
        exact hk15 v24 y28
  refine J_sub [1, 3, 4, 0] rfl ?_
  exact lhg25 1000 y6
theorem C_X7_flushes (Y : jY) (hz0 : Y.zf = false) (t0 : Nat) (ht0 : shC t0 = 8) (p0 : Int32) (p1 : Int32) (p2 : Int32) (I0 : jI) (L0 : jL) (I1 : jI) (h : X7_flushes t0 p0 p1 p2 I0 = some I1) : jMet Y yX7_flushes cX7_flushes 6 none 4 148 0 0 [jr t0, ji p0, ji p1, ji p2] NC shC rfC I0 L0 none NC shC rfC I1 L0 :=
  jmet_of _ _ h (fun Z r => jQ Y Z 0 0 none NC shC rfC r L0) (fun _ => rfl) (by decide) (Nat.le_of_ble_eq_true rfl) (fun Z hX => W_X7_flushes hz0 t0 ht0 p0 p1 p2 I0 L0 hX (fun _ => rfl))
def X7_empties (t0 : Nat) (p0 : Int32) (p1 : Int32) (I0 : jI) : Option (jI) :=
(X7_slotAt p0 p1 (0 : Int32)).bind (fun (y1 : Int32) =>
if jin y1 784 then jlet (jup I0 (rfC t0 0) (y1).toNatClampNeg (-1 : Int32)) (fun (I4 : jI) =>
some I4) else none)
set_option maxRecDepth 20000 in
set_option maxHeartbeats 4000000 in
theorem W_X7_empties {Y : jY} {Z : jZ} {Qf : jI → State → Prop} (hz0 : Y.zf = false) (t0 : Nat) (ht0 : shC t0 = 8) (p0 : Int32) (p1 : Int32) (I0 : jI) (L0 : jL) (hX : jOK Y Z RX7 cX7_empties 3 "empties" none 2 102 0 0) (hQ : ∀ r : jI, Qf r = jQ Y Z 0 0 none NC shC rfC r L0) : J Y Z 3 Qf (X7_empties t0 p0 p1 I0) 0 [(0, jr t0), (1, ji p0), (2, ji p1)] [] 0 0 NC shC rfC I0 L0 := by
  unfold X7_empties
  refine J_aload_n (pc := 0) hX 0 rfl dX7_empties_0 ?_
  refine g_X7_7 (pc := 1) hX ht0 dX7_empties_1 ?_
  refine J_iload_n (pc := 4) hX 1 rfl dX7_empties_4 ?_
  refine J_iload_n (pc := 5) hX 2 rfl dX7_empties_5 ?_
  refine J_iconst (pc := 6) hX (v := (0 : Int32)) (by decide) dX7_empties_6 ?_
  refine J_call1 (fun y1 e2 => ?_)
  refine jrun_i (pc := 7) (jRunS hX s_X7_55 (As := [ji p0, ji p1, ji (0 : Int32)]) (rest := [jr (rfC t0 0)]) (C_X7_slotAt Y hz0 p0 p1 (0 : Int32) I0 L0 y1 e2) rfl rfl ⟨by decide, by decide⟩ ⟨Nat.le_of_ble_eq_true rfl, Nat.le_of_ble_eq_true rfl⟩ (Nat.le_of_ble_eq_true rfl) dX7_empties_7) ?_
  refine J_iconst (pc := 10) hX (v := (-1 : Int32)) (by decide) dX7_empties_10 ?_
  refine J_iast (pc := 11) hX (N := 784) (fs_7_0 t0 ht0) (by decide) dX7_empties_11 (fun h3 I4 => ?_)
  exact J_vret (pc := 12) hX (hQ _) dX7_empties_12
theorem C_X7_empties (Y : jY) (hz0 : Y.zf = false) (t0 : Nat) (ht0 : shC t0 = 8) (p0 : Int32) (p1 : Int32) (I0 : jI) (L0 : jL) (I1 : jI) (h : X7_empties t0 p0 p1 I0 = some I1) : jMet Y yX7_empties cX7_empties 3 none 2 102 0 0 [jr t0, ji p0, ji p1] NC shC rfC I0 L0 none NC shC rfC I1 L0 :=
  jmet_of _ _ h (fun Z r => jQ Y Z 0 0 none NC shC rfC r L0) (fun _ => rfl) (by decide) (Nat.le_of_ble_eq_true rfl) (fun Z hX => W_X7_empties hz0 t0 ht0 p0 p1 I0 L0 hX (fun _ => rfl))
def X7_goesOut_F1 (t0 : Nat) (p0 : Int32) (y1 : Int32) (k37 : Int32 → Int32 → jI → Option (jI)) (g45 : Int32 → Int32 → Int32 → jI → Option (jI)) : Int32 → Int32 → Int32 → jI → Option (jI) := fun (v41 : Int32) (v42 : Int32) (v43 : Int32) (I44 : jI) =>
if p0 ≤ v43 then (
k37 v41 v42 I44)
else (
(X7_found t0 v43 y1 I44).bind (fun (y47 : Int32) =>
jlet (fun (v49 : Int32) (v50 : Int32) (I51 : jI) =>
g45 v49 v50 (v43 + (1 : Int32)) I51) (fun (k52 : Int32 → Int32 → jI → Option (jI)) =>
if y47 < 0 then (
k52 v41 v42 I44)
else (
(X7_note t0 v43 y47 (2 : Int32) I44).bind (fun (y54 : Int32) =>
jlet (if y54 = (1 : Int32) then (if v42 = 0 then (1 : Int32) else (0 : Int32)) else (0 : Int32)) (fun (y58 : Int32) =>
jlet (fun (v59 : Int32) =>
jlet (if v42 = 0 then (if y58 = 0 then (0 : Int32) else (1 : Int32)) else (1 : Int32)) (fun (y63 : Int32) =>
(X7_empties t0 v43 y47 I44).bind (fun (I64 : jI) =>
(X7_at v43 (8 : Int32)).bind (fun (y66 : Int32) =>
if jin y66 784 then (
if jin y66 784 then jlet (jup I64 (rfC t0 0) (y66).toNatClampNeg ((I64 (rfC t0 0) (y66).toNatClampNeg) + (1 : Int32))) (fun (I70 : jI) =>
k52 v59 y63 I70) else none) else none)))) (fun (k60 : Int32 → Option (jI)) =>
if y58 = 0 then (
k60 v41)
else (
(X7_note t0 v43 y47 (1 : Int32) I44).bind (fun (y72 : Int32) =>
k60 y72)))))))))
def X7_goesOut (rec : Nat → Int32 → Int32 → Int32 → Int32 → jI → Option (jI)) (t0 : Nat) (p0 : Int32) (p1 : Int32) (I0 : jI) : Option (jI) :=
(X7_note t0 p0 p1 (0 : Int32) I0).bind (fun (y1 : Int32) =>
(X7_note t0 p0 p1 (1 : Int32) I0).bind (fun (y3 : Int32) =>
(X7_note t0 p0 p1 (2 : Int32) I0).bind (fun (y5 : Int32) =>
jlet (if y5 = (1 : Int32) then (1 : Int32) else (0 : Int32)) (fun (y8 : Int32) =>
if jin (689 : Int32) 784 then (
jlet (fun (v10 : Int32) (v11 : Int32) (I12 : jI) =>
(X7_empties t0 p0 p1 I12).bind (fun (I14 : jI) =>
(X7_at p0 (8 : Int32)).bind (fun (y16 : Int32) =>
if jin y16 784 then (
if jin y16 784 then jlet (jup I14 (rfC t0 0) (y16).toNatClampNeg ((I14 (rfC t0 0) (y16).toNatClampNeg) + (1 : Int32))) (fun (I20 : jI) =>
if jin (689 : Int32) 784 then (
jlet (
if v11 = 0 then (
some I20)
else (
(X7_flushes t0 p0 y1 v10 I20).bind (fun (I24 : jI) =>
some I24))) (fun (k22 : Option (jI)) =>
if (I20 (rfC t0 0) ((689 : Int32)).toNatClampNeg) = (2 : Int32) then (
if jin (688 : Int32) 784 then (
if (I20 (rfC t0 0) ((688 : Int32)).toNatClampNeg) ≤ (p0 + (1 : Int32)) then (
k22)
else (
jlet (if v11 = 0 then (0 : Int32) else (1 : Int32)) (fun (y30 : Int32) =>
(rec t0 (p0 + (1 : Int32)) y1 v10 y30 I20).bind (fun (I31 : jI) =>
some I31)))) else none)
else (
k22))) else none) else none) else none))) (fun (k13 : Int32 → Int32 → jI → Option (jI)) =>
if (I0 (rfC t0 0) ((689 : Int32)).toNatClampNeg) = (1 : Int32) then (
jlet (fun (v34 : Int32) (v35 : Int32) (I36 : jI) =>
jlet (if y8 = 0 then (if v35 = 0 then (0 : Int32) else (1 : Int32)) else (1 : Int32)) (fun (y40 : Int32) =>
k13 v34 y40 I36)) (fun (k37 : Int32 → Int32 → jI → Option (jI)) =>
jfx (X7_goesOut_F1 t0 p0 y1 k37) (fun _ _ _ _ => none) 1000 y3 (0 : Int32) (0 : Int32) I0))
else (
k13 y3 y8 I0))) else none))))
set_option maxRecDepth 20000 in
set_option maxHeartbeats 4000000 in
theorem W_X7_goesOut {Y : jY} {Z : jZ} {Qf : jI → State → Prop} (hz0 : Y.zf = false) (m : Nat) (rec : Nat → Int32 → Int32 → Int32 → Int32 → jI → Option (jI)) (hrec : ∀ (t0 : Nat) (ht0 : shC t0 = 8) (p0 : Int32) (p1 : Int32) (p2 : Int32) (p3 : Int32) (I0 : jI) (L0 : jL) (I1 : jI) (_ : rec t0 p0 p1 p2 p3 I0 = some I1), jMet Y yX7_places cX7_places 6 none (5 + 4 * m) (174 + 200 * m) 0 0 [jr t0, ji p0, ji p1, ji p2, ji p3] NC shC rfC I0 L0 none NC shC rfC I1 L0) (t0 : Nat) (ht0 : shC t0 = 8) (p0 : Int32) (p1 : Int32) (I0 : jI) (L0 : jL) (hX : jOK Y Z RX7 cX7_goesOut 10 "goesOut" none (5 + 4 * m + 1) (174 + 200 * m + 60) 0 0) (hQ : ∀ r : jI, Qf r = jQ Y Z 0 0 none NC shC rfC r L0) : J Y Z 10 Qf (X7_goesOut rec t0 p0 p1 I0) 0 [(0, jr t0), (1, ji p0), (2, ji p1)] [] 0 0 NC shC rfC I0 L0 := by
  unfold X7_goesOut
  refine J_aload_n (pc := 0) hX 0 rfl dX7_goesOut_0 ?_
  refine J_iload_n (pc := 1) hX 1 rfl dX7_goesOut_1 ?_
  refine J_iload_n (pc := 2) hX 2 rfl dX7_goesOut_2 ?_
  refine J_iconst (pc := 3) hX (v := (0 : Int32)) (by decide) dX7_goesOut_3 ?_
  refine J_call1 (fun y1 e2 => ?_)
  refine jrun_i (pc := 4) (jRunV hX s_X7_62 (ci := 7) (T := TX7) (N := 20) (As := [ji p0, ji p1, ji (0 : Int32)]) (rest := []) rfl (by decide) (C_X7_note Y hz0 t0 ht0 p0 p1 (0 : Int32) I0 L0 y1 e2) ht0 rfl rfl ⟨by omega, by omega⟩ ⟨Nat.le_of_ble_eq_true rfl, Nat.le_of_ble_eq_true rfl⟩ (Nat.le_of_ble_eq_true rfl) dX7_goesOut_4) ?_
  refine J_istore_n (pc := 7) hX (lo' := [(3, ji y1), (0, jr t0), (1, ji p0), (2, ji p1)]) (by decide) rfl dX7_goesOut_7 ?_
  refine J_aload_n (pc := 8) hX 1 rfl dX7_goesOut_8 ?_
  refine J_iload_n (pc := 9) hX 2 rfl dX7_goesOut_9 ?_
  refine J_iload_n (pc := 10) hX 3 rfl dX7_goesOut_10 ?_
  refine J_iconst (pc := 11) hX (v := (1 : Int32)) (by decide) dX7_goesOut_11 ?_
  refine J_call1 (fun y3 e4 => ?_)
  refine jrun_i (pc := 12) (jRunV hX s_X7_62 (ci := 7) (T := TX7) (N := 20) (As := [ji p0, ji p1, ji (1 : Int32)]) (rest := []) rfl (by decide) (C_X7_note Y hz0 t0 ht0 p0 p1 (1 : Int32) I0 L0 y3 e4) ht0 rfl rfl ⟨by omega, by omega⟩ ⟨Nat.le_of_ble_eq_true rfl, Nat.le_of_ble_eq_true rfl⟩ (Nat.le_of_ble_eq_true rfl) dX7_goesOut_12) ?_
  refine J_istore (pc := 15) hX (lo' := [(4, ji y3), (3, ji y1), (0, jr t0), (1, ji p0), (2, ji p1)]) (by decide) rfl dX7_goesOut_15 ?_
  refine J_aload_n (pc := 17) hX 2 rfl dX7_goesOut_17 ?_
  refine J_iload_n (pc := 18) hX 3 rfl dX7_goesOut_18 ?_
  refine J_iload_n (pc := 19) hX 4 rfl dX7_goesOut_19 ?_
  refine J_iconst (pc := 20) hX (v := (2 : Int32)) (by decide) dX7_goesOut_20 ?_
  refine J_call1 (fun y5 e6 => ?_)
  refine jrun_i (pc := 21) (jRunV hX s_X7_62 (ci := 7) (T := TX7) (N := 20) (As := [ji p0, ji p1, ji (2 : Int32)]) (rest := []) rfl (by decide) (C_X7_note Y hz0 t0 ht0 p0 p1 (2 : Int32) I0 L0 y5 e6) ht0 rfl rfl ⟨by omega, by omega⟩ ⟨Nat.le_of_ble_eq_true rfl, Nat.le_of_ble_eq_true rfl⟩ (Nat.le_of_ble_eq_true rfl) dX7_goesOut_21) ?_
  refine J_iconst (pc := 24) hX (v := (1 : Int32)) (by decide) dX7_goesOut_24 ?_
  refine J_vjoin (fun kq (y8 : Int32) => J Y Z 10 Qf (kq) 33 [(4, ji y3), (3, ji y1), (0, jr t0), (1, ji p0), (2, ji p1)] [ji y8] 0 0 NC shC rfC I0 L0) (fun y8 => ?_) (fun hj => ?_)
  · try dsimp only
    refine J_istore (pc := 33) hX (lo' := [(5, ji y8), (4, ji y3), (3, ji y1), (0, jr t0), (1, ji p0), (2, ji p1)]) (by decide) rfl dX7_goesOut_33 ?_
    refine J_aload_n (pc := 35) hX 3 rfl dX7_goesOut_35 ?_
    refine g_X7_7 (pc := 36) hX ht0 dX7_goesOut_36 ?_
    refine J_sipush (pc := 39) hX (v := (689 : Int32)) (by decide) dX7_goesOut_39 ?_
    refine J_iald (pc := 42) hX (N := 784) (fs_7_0 t0 ht0) (by decide) dX7_goesOut_42 (fun h9 => ?_)
    refine J_iconst (pc := 43) hX (v := (1 : Int32)) (by decide) dX7_goesOut_43 ?_
    refine J_join (fun (k13 : Int32 → Int32 → jI → Option (jI)) => ∀ (v10 : Int32) (v11 : Int32) (I12 : jI), J Y Z 10 Qf (k13 v10 v11 I12) 183 [(0, jr t0), (1, ji p0), (2, ji p1), (3, ji y1), (4, ji v10), (5, ji v11)] [] 0 0 NC shC rfC I12 L0) ?_ (fun k13 hk13 => ?_)
    · intro v10 v11 I12
      try dsimp only
      refine J_aload_n (pc := 183) hX 0 rfl dX7_goesOut_183 ?_
      refine J_iload_n (pc := 184) hX 1 rfl dX7_goesOut_184 ?_
      refine J_iload_n (pc := 185) hX 2 rfl dX7_goesOut_185 ?_
      refine J_call1 (fun I14 e15 => ?_)
      refine jrun_v (pc := 186) (jRunV hX s_X7_76 (ci := 7) (T := TX7) (N := 20) (As := [ji p0, ji p1]) (rest := []) rfl (by decide) (C_X7_empties Y hz0 t0 ht0 p0 p1 I12 L0 I14 e15) ht0 rfl rfl ⟨by omega, by omega⟩ ⟨Nat.le_of_ble_eq_true rfl, Nat.le_of_ble_eq_true rfl⟩ (Nat.le_of_ble_eq_true rfl) dX7_goesOut_186) ?_
      refine J_aload_n (pc := 189) hX 0 rfl dX7_goesOut_189 ?_
      refine g_X7_7 (pc := 190) hX ht0 dX7_goesOut_190 ?_
      refine J_iload_n (pc := 193) hX 1 rfl dX7_goesOut_193 ?_
      refine J_bipush (pc := 194) hX (v := (8 : Int32)) (by decide) dX7_goesOut_194 ?_
      refine J_call1 (fun y16 e17 => ?_)
      refine jrun_i (pc := 196) (jRunS hX s_X7_51 (As := [ji p0, ji (8 : Int32)]) (rest := [jr (rfC t0 0)]) (C_X7_at Y hz0 p0 (8 : Int32) I14 L0 y16 e17) rfl rfl ⟨by omega, by omega⟩ ⟨Nat.le_of_ble_eq_true rfl, Nat.le_of_ble_eq_true rfl⟩ (Nat.le_of_ble_eq_true rfl) dX7_goesOut_196) ?_
      refine J_dup2 (pc := 199) hX rfl rfl dX7_goesOut_199 ?_
      refine J_iald (pc := 200) hX (N := 784) (fs_7_0 t0 ht0) (by decide) dX7_goesOut_200 (fun h18 => ?_)
      refine J_iconst (pc := 201) hX (v := (1 : Int32)) (by decide) dX7_goesOut_201 ?_
      refine J_iadd (pc := 202) hX dX7_goesOut_202 ?_
      refine J_iast (pc := 203) hX (N := 784) (fs_7_0 t0 ht0) (by decide) dX7_goesOut_203 (fun h19 I20 => ?_)
      refine J_aload_n (pc := 204) hX 0 rfl dX7_goesOut_204 ?_
      refine g_X7_7 (pc := 205) hX ht0 dX7_goesOut_205 ?_
      refine J_sipush (pc := 208) hX (v := (689 : Int32)) (by decide) dX7_goesOut_208 ?_
      refine J_iald (pc := 211) hX (N := 784) (fs_7_0 t0 ht0) (by decide) dX7_goesOut_211 (fun h21 => ?_)
      refine J_iconst (pc := 212) hX (v := (2 : Int32)) (by decide) dX7_goesOut_212 ?_
      refine J_join (fun (k22 : Option (jI)) => J Y Z 10 Qf (k22) 253 [(0, jr t0), (1, ji p0), (3, ji y1), (4, ji v10), (5, ji v11)] [] 0 0 NC shC rfC I20 L0) ?_ (fun k22 hk22 => ?_)
      · refine J_iload (pc := 253) hX 4 rfl dX7_goesOut_253 ?_
        refine J_if_eq (pc := 255) hX (tgt := 266) (by decide) dX7_goesOut_255 (fun h23 => ?_) (fun h23 => ?_)
        · exact J_vret (pc := 266) hX (hQ _) dX7_goesOut_266
        · refine J_aload_n (pc := 258) hX 0 rfl dX7_goesOut_258 ?_
          refine J_iload_n (pc := 259) hX 1 rfl dX7_goesOut_259 ?_
          refine J_iload_n (pc := 260) hX 2 rfl dX7_goesOut_260 ?_
          refine J_iload (pc := 261) hX 3 rfl dX7_goesOut_261 ?_
          refine J_call1 (fun I24 e25 => ?_)
          refine jrun_v (pc := 263) (jRunV hX s_X7_84 (ci := 7) (T := TX7) (N := 20) (As := [ji p0, ji y1, ji v10]) (rest := []) rfl (by decide) (C_X7_flushes Y hz0 t0 ht0 p0 y1 v10 I20 L0 I24 e25) ht0 rfl rfl ⟨by omega, by omega⟩ ⟨Nat.le_of_ble_eq_true rfl, Nat.le_of_ble_eq_true rfl⟩ (Nat.le_of_ble_eq_true rfl) dX7_goesOut_263) ?_
          exact J_vret (pc := 266) hX (hQ _) dX7_goesOut_266
      refine J_icmp_ne (pc := 213) hX (tgt := 253) (by decide) dX7_goesOut_213 (fun h26 => ?_) (fun h26 => ?_)
      · refine J_sub [0, 1, 3, 4, 5] rfl ?_
        exact hk22
      · refine J_iload_n (pc := 216) hX 1 rfl dX7_goesOut_216 ?_
        refine J_iconst (pc := 217) hX (v := (1 : Int32)) (by decide) dX7_goesOut_217 ?_
        refine J_iadd (pc := 218) hX dX7_goesOut_218 ?_
        refine J_aload_n (pc := 219) hX 0 rfl dX7_goesOut_219 ?_
        refine g_X7_7 (pc := 220) hX ht0 dX7_goesOut_220 ?_
        refine J_sipush (pc := 223) hX (v := (688 : Int32)) (by decide) dX7_goesOut_223 ?_
        refine J_iald (pc := 226) hX (N := 784) (fs_7_0 t0 ht0) (by decide) dX7_goesOut_226 (fun h27 => ?_)
        refine J_icmp_ge (pc := 227) hX (tgt := 253) (by decide) dX7_goesOut_227 (fun h28 => ?_) (fun h28 => ?_)
        · refine J_sub [0, 1, 3, 4, 5] rfl ?_
          exact hk22
        · refine J_aload_n (pc := 230) hX 0 rfl dX7_goesOut_230 ?_
          refine J_iload_n (pc := 231) hX 1 rfl dX7_goesOut_231 ?_
          refine J_iconst (pc := 232) hX (v := (1 : Int32)) (by decide) dX7_goesOut_232 ?_
          refine J_iadd (pc := 233) hX dX7_goesOut_233 ?_
          refine J_iload_n (pc := 234) hX 3 rfl dX7_goesOut_234 ?_
          refine J_iload (pc := 235) hX 4 rfl dX7_goesOut_235 ?_
          refine J_iload (pc := 237) hX 5 rfl dX7_goesOut_237 ?_
          refine J_vjoin (fun kq (y30 : Int32) => J Y Z 10 Qf (kq) 247 [(0, jr t0), (1, ji p0), (2, ji p1), (3, ji y1), (4, ji v10), (5, ji v11)] [ji y30, ji v10, ji y1, ji (p0 + (1 : Int32)), jr t0] 0 0 NC shC rfC I20 L0) (fun y30 => ?_) (fun hj => ?_)
          · try dsimp only
            refine J_call1 (fun I31 e32 => ?_)
            refine jrun_v (pc := 247) (jRunV hX s_X7_80 (ci := 7) (T := TX7) (N := 20) (As := [ji (p0 + (1 : Int32)), ji y1, ji v10, ji y30]) (rest := []) rfl (by decide) (hrec t0 ht0 (p0 + (1 : Int32)) y1 v10 y30 I20 L0 I31 e32) ht0 rfl rfl ⟨by omega, by omega⟩ ⟨Nat.le_of_ble_eq_true rfl, Nat.le_of_ble_eq_true rfl⟩ (Nat.le_of_ble_eq_true rfl) dX7_goesOut_247) ?_
            refine J_goto (pc := 250) hX (tgt := 266) (by decide) dX7_goesOut_250 ?_
            exact J_vret (pc := 266) hX (hQ _) dX7_goesOut_266
          try dsimp only at hj
          refine J_if_eqV (pc := 239) hX (tgt := 246) (by decide) dX7_goesOut_239 (fun h29 => ?_) (fun h29 => ?_)
          · refine J_iconst (pc := 246) hX (v := (0 : Int32)) (by decide) dX7_goesOut_246 ?_
            exact hj _
          · refine J_iconst (pc := 242) hX (v := (1 : Int32)) (by decide) dX7_goesOut_242 ?_
            refine J_goto (pc := 243) hX (tgt := 247) (by decide) dX7_goesOut_243 ?_
            exact hj _
    refine J_icmp_ne (pc := 44) hX (tgt := 183) (by decide) dX7_goesOut_44 (fun h33 => ?_) (fun h33 => ?_)
    · refine J_sub [3, 4, 5, 2, 1, 0] rfl ?_
      exact hk13 y3 y8 I0
    · refine J_iconst (pc := 47) hX (v := (0 : Int32)) (by decide) dX7_goesOut_47 ?_
      refine J_istore (pc := 48) hX (lo' := [(6, ji (0 : Int32)), (5, ji y8), (4, ji y3), (3, ji y1), (0, jr t0), (1, ji p0), (2, ji p1)]) (by decide) rfl dX7_goesOut_48 ?_
      refine J_iconst (pc := 50) hX (v := (0 : Int32)) (by decide) dX7_goesOut_50 ?_
      refine J_istore (pc := 51) hX (lo' := [(7, ji (0 : Int32)), (6, ji (0 : Int32)), (5, ji y8), (4, ji y3), (3, ji y1), (0, jr t0), (1, ji p0), (2, ji p1)]) (by decide) rfl dX7_goesOut_51 ?_
      refine J_join (fun (k37 : Int32 → Int32 → jI → Option (jI)) => ∀ (v34 : Int32) (v35 : Int32) (I36 : jI), J Y Z 10 Qf (k37 v34 v35 I36) 166 [(0, jr t0), (1, ji p0), (2, ji p1), (3, ji y1), (4, ji v34), (5, ji y8), (6, ji v35)] [] 0 0 NC shC rfC I36 L0) ?_ (fun k37 hk37 => ?_)
      · intro v34 v35 I36
        try dsimp only
        refine J_iload (pc := 166) hX 5 rfl dX7_goesOut_166 ?_
        refine J_vjoin (fun kq (y40 : Int32) => J Y Z 10 Qf (kq) 181 [(0, jr t0), (1, ji p0), (2, ji p1), (3, ji y1), (4, ji v34), (5, ji y8), (6, ji v35)] [ji y40] 0 0 NC shC rfC I36 L0) (fun y40 => ?_) (fun hj => ?_)
        · try dsimp only
          refine J_istore (pc := 181) hX (lo' := [(5, ji y40), (0, jr t0), (1, ji p0), (2, ji p1), (3, ji y1), (4, ji v34), (6, ji v35)]) (by decide) rfl dX7_goesOut_181 ?_
          refine J_sub [1, 2, 3, 4, 5, 0] rfl ?_
          exact hk13 v34 y40 I36
        try dsimp only at hj
        refine J_if_neV (pc := 168) hX (tgt := 176) (by decide) dX7_goesOut_168 (fun h39 => ?_) (fun h39 => ?_)
        · refine J_iconst (pc := 176) hX (v := (1 : Int32)) (by decide) dX7_goesOut_176 ?_
          refine J_goto (pc := 177) hX (tgt := 181) (by decide) dX7_goesOut_177 ?_
          exact hj _
        · refine J_iload (pc := 171) hX 6 rfl dX7_goesOut_171 ?_
          refine J_if_eqV (pc := 173) hX (tgt := 180) (by decide) dX7_goesOut_173 (fun h38 => ?_) (fun h38 => ?_)
          · refine J_iconst (pc := 180) hX (v := (0 : Int32)) (by decide) dX7_goesOut_180 ?_
            exact hj _
          · refine J_iconst (pc := 176) hX (v := (1 : Int32)) (by decide) dX7_goesOut_176 ?_
            refine J_goto (pc := 177) hX (tgt := 181) (by decide) dX7_goesOut_177 ?_
            exact hj _
      have lhg45 : ∀ mq : Nat, ∀ (v41 : Int32) (v42 : Int32) (v43 : Int32) (I44 : jI), J Y Z 10 Qf (jfx (X7_goesOut_F1 t0 p0 y1 k37) (fun _ _ _ _ => none) mq v41 v42 v43 I44) 53 [(0, jr t0), (1, ji p0), (2, ji p1), (3, ji y1), (4, ji v41), (5, ji y8), (6, ji v42), (7, ji v43)] [] 0 0 NC shC rfC I44 L0 := by
        intro mq
        refine jfx_J (fun (_ : Nat) (g45 : Int32 → Int32 → Int32 → jI → Option (jI)) => ∀ (v41 : Int32) (v42 : Int32) (v43 : Int32) (I44 : jI), J Y Z 10 Qf (g45 v41 v42 v43 I44) 53 [(0, jr t0), (1, ji p0), (2, ji p1), (3, ji y1), (4, ji v41), (5, ji y8), (6, ji v42), (7, ji v43)] [] 0 0 NC shC rfC I44 L0) ?_ (fun _ g45 hg45 => ?_) mq
        · intro v41 v42 v43 I44
          exact J_none
        intro v41 v42 v43 I44
        unfold X7_goesOut_F1
        try dsimp only
        refine J_iload (pc := 53) hX 7 rfl dX7_goesOut_53 ?_
        refine J_iload_n (pc := 55) hX 1 rfl dX7_goesOut_55 ?_
        refine J_icmp_ge (pc := 56) hX (tgt := 166) (by decide) dX7_goesOut_56 (fun h46 => ?_) (fun h46 => ?_)
        · refine J_sub [0, 1, 2, 3, 4, 5, 6] rfl ?_
          exact hk37 v41 v42 I44
        · refine J_aload_n (pc := 59) hX 0 rfl dX7_goesOut_59 ?_
          refine J_iload (pc := 60) hX 7 rfl dX7_goesOut_60 ?_
          refine J_iload_n (pc := 62) hX 3 rfl dX7_goesOut_62 ?_
          refine J_call1 (fun y47 e48 => ?_)
          refine jrun_i (pc := 63) (jRunV hX s_X7_73 (ci := 7) (T := TX7) (N := 20) (As := [ji v43, ji y1]) (rest := []) rfl (by decide) (C_X7_found Y hz0 t0 ht0 v43 y1 I44 L0 y47 e48) ht0 rfl rfl ⟨by omega, by omega⟩ ⟨Nat.le_of_ble_eq_true rfl, Nat.le_of_ble_eq_true rfl⟩ (Nat.le_of_ble_eq_true rfl) dX7_goesOut_63) ?_
          refine J_istore (pc := 66) hX (lo' := [(8, ji y47), (0, jr t0), (1, ji p0), (2, ji p1), (3, ji y1), (4, ji v41), (5, ji y8), (6, ji v42), (7, ji v43)]) (by decide) rfl dX7_goesOut_66 ?_
          refine J_iload (pc := 68) hX 0 rfl dX7_goesOut_68 ?_
          refine J_join (fun (k52 : Int32 → Int32 → jI → Option (jI)) => ∀ (v49 : Int32) (v50 : Int32) (I51 : jI), J Y Z 10 Qf (k52 v49 v50 I51) 160 [(0, jr t0), (1, ji p0), (2, ji p1), (3, ji y1), (4, ji v49), (5, ji y8), (6, ji v50), (7, ji v43)] [] 0 0 NC shC rfC I51 L0) ?_ (fun k52 hk52 => ?_)
          · intro v49 v50 I51
            try dsimp only
            refine J_iinc (pc := 160) hX (v := (v43 + (1 : Int32))) (lo' := [(7, ji (v43 + (1 : Int32))), (0, jr t0), (1, ji p0), (2, ji p1), (3, ji y1), (4, ji v49), (5, ji y8), (6, ji v50)]) 7 rfl (by rfl) (by decide) rfl dX7_goesOut_160 ?_
            refine J_goto (pc := 163) hX (tgt := 53) (by decide) dX7_goesOut_163 ?_
            refine J_sub [1, 2, 3, 4, 5, 6, 7, 0] rfl ?_
            exact hg45 v49 v50 (v43 + (1 : Int32)) I51
          refine J_if_lt (pc := 70) hX (tgt := 160) (by decide) dX7_goesOut_70 (fun h53 => ?_) (fun h53 => ?_)
          · refine J_sub [1, 2, 3, 4, 5, 6, 7, 8] rfl ?_
            exact hk52 v41 v42 I44
          · refine J_aload_n (pc := 73) hX 1 rfl dX7_goesOut_73 ?_
            refine J_iload (pc := 74) hX 8 rfl dX7_goesOut_74 ?_
            refine J_iload (pc := 76) hX 0 rfl dX7_goesOut_76 ?_
            refine J_iconst (pc := 78) hX (v := (2 : Int32)) (by decide) dX7_goesOut_78 ?_
            refine J_call1 (fun y54 e55 => ?_)
            refine jrun_i (pc := 79) (jRunV hX s_X7_62 (ci := 7) (T := TX7) (N := 20) (As := [ji v43, ji y47, ji (2 : Int32)]) (rest := []) rfl (by decide) (C_X7_note Y hz0 t0 ht0 v43 y47 (2 : Int32) I44 L0 y54 e55) ht0 rfl rfl ⟨by omega, by omega⟩ ⟨Nat.le_of_ble_eq_true rfl, Nat.le_of_ble_eq_true rfl⟩ (Nat.le_of_ble_eq_true rfl) dX7_goesOut_79) ?_
            refine J_iconst (pc := 82) hX (v := (1 : Int32)) (by decide) dX7_goesOut_82 ?_
            refine J_vjoin (fun kq (y58 : Int32) => J Y Z 10 Qf (kq) 96 [(8, ji y47), (0, jr t0), (1, ji p0), (2, ji p1), (3, ji y1), (4, ji v41), (5, ji y8), (6, ji v42), (7, ji v43)] [ji y58] 0 0 NC shC rfC I44 L0) (fun y58 => ?_) (fun hj => ?_)
            · try dsimp only
              refine J_istore (pc := 96) hX (lo' := [(9, ji y58), (8, ji y47), (0, jr t0), (1, ji p0), (2, ji p1), (3, ji y1), (4, ji v41), (5, ji y8), (6, ji v42), (7, ji v43)]) (by decide) rfl dX7_goesOut_96 ?_
              refine J_iload (pc := 98) hX 0 rfl dX7_goesOut_98 ?_
              refine J_join (fun (k60 : Int32 → Option (jI)) => ∀ (v59 : Int32), J Y Z 10 Qf (k60 v59) 117 [(0, jr t0), (1, ji p0), (2, ji p1), (3, ji y1), (5, ji y8), (6, ji v42), (7, ji v43), (8, ji y47), (9, ji y58)] [ji v59] 0 0 NC shC rfC I44 L0) ?_ (fun k60 hk60 => ?_)
              · intro v59
                try dsimp only
                refine J_istore (pc := 117) hX (lo' := [(4, ji v59), (0, jr t0), (1, ji p0), (2, ji p1), (3, ji y1), (5, ji y8), (6, ji v42), (7, ji v43), (8, ji y47), (9, ji y58)]) (by decide) rfl dX7_goesOut_117 ?_
                refine J_iload (pc := 119) hX 6 rfl dX7_goesOut_119 ?_
                refine J_vjoin (fun kq (y63 : Int32) => J Y Z 10 Qf (kq) 134 [(4, ji v59), (0, jr t0), (1, ji p0), (2, ji p1), (3, ji y1), (5, ji y8), (6, ji v42), (7, ji v43), (8, ji y47), (9, ji y58)] [ji y63] 0 0 NC shC rfC I44 L0) (fun y63 => ?_) (fun hj => ?_)
                · try dsimp only
                  refine J_istore (pc := 134) hX (lo' := [(6, ji y63), (4, ji v59), (0, jr t0), (1, ji p0), (2, ji p1), (3, ji y1), (5, ji y8), (7, ji v43), (8, ji y47), (9, ji y58)]) (by decide) rfl dX7_goesOut_134 ?_
                  refine J_aload_n (pc := 136) hX 2 rfl dX7_goesOut_136 ?_
                  refine J_iload (pc := 137) hX 7 rfl dX7_goesOut_137 ?_
                  refine J_iload (pc := 139) hX 8 rfl dX7_goesOut_139 ?_
                  refine J_call1 (fun I64 e65 => ?_)
                  refine jrun_v (pc := 141) (jRunV hX s_X7_76 (ci := 7) (T := TX7) (N := 20) (As := [ji v43, ji y47]) (rest := []) rfl (by decide) (C_X7_empties Y hz0 t0 ht0 v43 y47 I44 L0 I64 e65) ht0 rfl rfl ⟨by omega, by omega⟩ ⟨Nat.le_of_ble_eq_true rfl, Nat.le_of_ble_eq_true rfl⟩ (Nat.le_of_ble_eq_true rfl) dX7_goesOut_141) ?_
                  refine J_aload_n (pc := 144) hX 2 rfl dX7_goesOut_144 ?_
                  refine g_X7_7 (pc := 145) hX ht0 dX7_goesOut_145 ?_
                  refine J_iload (pc := 148) hX 7 rfl dX7_goesOut_148 ?_
                  refine J_bipush (pc := 150) hX (v := (8 : Int32)) (by decide) dX7_goesOut_150 ?_
                  refine J_call1 (fun y66 e67 => ?_)
                  refine jrun_i (pc := 152) (jRunS hX s_X7_51 (As := [ji v43, ji (8 : Int32)]) (rest := [jr (rfC t0 0)]) (C_X7_at Y hz0 v43 (8 : Int32) I64 L0 y66 e67) rfl rfl ⟨by omega, by omega⟩ ⟨Nat.le_of_ble_eq_true rfl, Nat.le_of_ble_eq_true rfl⟩ (Nat.le_of_ble_eq_true rfl) dX7_goesOut_152) ?_
                  refine J_dup2 (pc := 155) hX rfl rfl dX7_goesOut_155 ?_
                  refine J_iald (pc := 156) hX (N := 784) (fs_7_0 t0 ht0) (by decide) dX7_goesOut_156 (fun h68 => ?_)
                  refine J_iconst (pc := 157) hX (v := (1 : Int32)) (by decide) dX7_goesOut_157 ?_
                  refine J_iadd (pc := 158) hX dX7_goesOut_158 ?_
                  refine J_iast (pc := 159) hX (N := 784) (fs_7_0 t0 ht0) (by decide) dX7_goesOut_159 (fun h69 I70 => ?_)
                  refine J_sub [2, 3, 4, 5, 1, 6, 0, 7] rfl ?_
                  exact hk52 v59 y63 I70
                try dsimp only at hj
                refine J_if_neV (pc := 121) hX (tgt := 129) (by decide) dX7_goesOut_121 (fun h62 => ?_) (fun h62 => ?_)
                · refine J_iconst (pc := 129) hX (v := (1 : Int32)) (by decide) dX7_goesOut_129 ?_
                  refine J_goto (pc := 130) hX (tgt := 134) (by decide) dX7_goesOut_130 ?_
                  exact hj _
                · refine J_iload (pc := 124) hX 9 rfl dX7_goesOut_124 ?_
                  refine J_if_eqV (pc := 126) hX (tgt := 133) (by decide) dX7_goesOut_126 (fun h61 => ?_) (fun h61 => ?_)
                  · refine J_iconst (pc := 133) hX (v := (0 : Int32)) (by decide) dX7_goesOut_133 ?_
                    exact hj _
                  · refine J_iconst (pc := 129) hX (v := (1 : Int32)) (by decide) dX7_goesOut_129 ?_
                    refine J_goto (pc := 130) hX (tgt := 134) (by decide) dX7_goesOut_130 ?_
                    exact hj _
              refine J_if_eq (pc := 100) hX (tgt := 115) (by decide) dX7_goesOut_100 (fun h71 => ?_) (fun h71 => ?_)
              · refine J_iload (pc := 115) hX 6 rfl dX7_goesOut_115 ?_
                refine J_sub [2, 3, 4, 5, 7, 8, 9, 1, 0] rfl ?_
                exact hk60 v41
              · refine J_aload_n (pc := 103) hX 2 rfl dX7_goesOut_103 ?_
                refine J_iload (pc := 104) hX 9 rfl dX7_goesOut_104 ?_
                refine J_iload (pc := 106) hX 1 rfl dX7_goesOut_106 ?_
                refine J_iconst (pc := 108) hX (v := (1 : Int32)) (by decide) dX7_goesOut_108 ?_
                refine J_call1 (fun y72 e73 => ?_)
                refine jrun_i (pc := 109) (jRunV hX s_X7_62 (ci := 7) (T := TX7) (N := 20) (As := [ji v43, ji y47, ji (1 : Int32)]) (rest := []) rfl (by decide) (C_X7_note Y hz0 t0 ht0 v43 y47 (1 : Int32) I44 L0 y72 e73) ht0 rfl rfl ⟨by omega, by omega⟩ ⟨Nat.le_of_ble_eq_true rfl, Nat.le_of_ble_eq_true rfl⟩ (Nat.le_of_ble_eq_true rfl) dX7_goesOut_109) ?_
                refine J_goto (pc := 112) hX (tgt := 117) (by decide) dX7_goesOut_112 ?_
                refine J_sub [2, 3, 4, 5, 7, 8, 9, 1, 0] rfl ?_
                exact hk60 y72
            try dsimp only at hj
            refine J_icmp_neV (pc := 83) hX (tgt := 95) (by decide) dX7_goesOut_83 (fun h57 => ?_) (fun h57 => ?_)
            · refine J_iconst (pc := 95) hX (v := (0 : Int32)) (by decide) dX7_goesOut_95 ?_
              exact hj _
            · refine J_iload (pc := 86) hX 7 rfl dX7_goesOut_86 ?_
              refine J_if_neV (pc := 88) hX (tgt := 95) (by decide) dX7_goesOut_88 (fun h56 => ?_) (fun h56 => ?_)
              · refine J_iconst (pc := 95) hX (v := (0 : Int32)) (by decide) dX7_goesOut_95 ?_
                exact hj _
              · refine J_iconst (pc := 91) hX (v := (1 : Int32)) (by decide) dX7_goesOut_91 ?_
                refine J_goto (pc := 92) hX (tgt := 96) (by decide) dX7_goesOut_92 ?_
                exact hj _
      refine J_sub [5, 6, 7, 4, 3, 2, 1, 0] rfl ?_
      exact lhg45 1000 y3 (0 : Int32) (0 : Int32) I0
  try dsimp only at hj
  refine J_icmp_neV (pc := 25) hX (tgt := 32) (by decide) dX7_goesOut_25 (fun h7 => ?_) (fun h7 => ?_)
  · refine J_iconst (pc := 32) hX (v := (0 : Int32)) (by decide) dX7_goesOut_32 ?_
    exact hj _
  · refine J_iconst (pc := 28) hX (v := (1 : Int32)) (by decide) dX7_goesOut_28 ?_
    refine J_goto (pc := 29) hX (tgt := 33) (by decide) dX7_goesOut_29 ?_
    exact hj _
theorem C_X7_goesOut (Y : jY) (hz0 : Y.zf = false) (m : Nat) (rec : Nat → Int32 → Int32 → Int32 → Int32 → jI → Option (jI)) (hrec : ∀ (t0 : Nat) (ht0 : shC t0 = 8) (p0 : Int32) (p1 : Int32) (p2 : Int32) (p3 : Int32) (I0 : jI) (L0 : jL) (I1 : jI) (_ : rec t0 p0 p1 p2 p3 I0 = some I1), jMet Y yX7_places cX7_places 6 none (5 + 4 * m) (174 + 200 * m) 0 0 [jr t0, ji p0, ji p1, ji p2, ji p3] NC shC rfC I0 L0 none NC shC rfC I1 L0) (t0 : Nat) (ht0 : shC t0 = 8) (p0 : Int32) (p1 : Int32) (I0 : jI) (L0 : jL) (I1 : jI) (h : X7_goesOut rec t0 p0 p1 I0 = some I1) : jMet Y yX7_goesOut cX7_goesOut 10 none (5 + 4 * m + 1) (174 + 200 * m + 60) 0 0 [jr t0, ji p0, ji p1] NC shC rfC I0 L0 none NC shC rfC I1 L0 :=
  jmet_of _ _ h (fun Z r => jQ Y Z 0 0 none NC shC rfC r L0) (fun _ => rfl) (by decide) (Nat.le_of_ble_eq_true rfl) (fun Z hX => W_X7_goesOut hz0 m rec hrec t0 ht0 p0 p1 I0 L0 hX (fun _ => rfl))
def X7_placesF (rec : Nat → Int32 → Int32 → Int32 → Int32 → jI → Option (jI)) (t0 : Nat) (p0 : Int32) (p1 : Int32) (p2 : Int32) (p3 : Int32) (I0 : jI) : Option (jI) :=
(X7_found t0 p0 (-1 : Int32) I0).bind (fun (y1 : Int32) =>
jlet (fun (I3 : jI) =>
(X7_found t0 p0 (-1 : Int32) I3).bind (fun (y5 : Int32) =>
(X7_slotAt p0 y5 (0 : Int32)).bind (fun (y7 : Int32) =>
if jin y7 784 then jlet (jup I3 (rfC t0 0) (y7).toNatClampNeg p1) (fun (I10 : jI) =>
(X7_slotAt p0 y5 (1 : Int32)).bind (fun (y11 : Int32) =>
if jin y11 784 then jlet (jup I10 (rfC t0 0) (y11).toNatClampNeg p2) (fun (I14 : jI) =>
(X7_slotAt p0 y5 (2 : Int32)).bind (fun (y15 : Int32) =>
if jin y15 784 then jlet (jup I14 (rfC t0 0) (y15).toNatClampNeg p3) (fun (I18 : jI) =>
(X7_slotAt p0 y5 (3 : Int32)).bind (fun (y19 : Int32) =>
if jin (700 : Int32) 784 then (
if jin y19 784 then jlet (jup I18 (rfC t0 0) (y19).toNatClampNeg (I18 (rfC t0 0) ((700 : Int32)).toNatClampNeg)) (fun (I23 : jI) =>
(X7_slotAt p0 y5 (4 : Int32)).bind (fun (y24 : Int32) =>
if jin (693 : Int32) 784 then (
if jin y24 784 then jlet (jup I23 (rfC t0 0) (y24).toNatClampNeg (I23 (rfC t0 0) ((693 : Int32)).toNatClampNeg)) (fun (I28 : jI) =>
(X7_slotAt p0 y5 (5 : Int32)).bind (fun (y29 : Int32) =>
if jin y29 784 then jlet (jup I28 (rfC t0 0) (y29).toNatClampNeg (1 : Int32)) (fun (I32 : jI) =>
(X7_slotAt p0 y5 (6 : Int32)).bind (fun (y33 : Int32) =>
if jin y33 784 then jlet (jup I32 (rfC t0 0) (y33).toNatClampNeg (0 : Int32)) (fun (I36 : jI) =>
if jin (700 : Int32) 784 then (
if jin (700 : Int32) 784 then jlet (jup I36 (rfC t0 0) ((700 : Int32)).toNatClampNeg ((I36 (rfC t0 0) ((700 : Int32)).toNatClampNeg) + (1 : Int32))) (fun (I39 : jI) =>
(X7_at p0 (6 : Int32)).bind (fun (y40 : Int32) =>
if jin y40 784 then (
if jin y40 784 then jlet (jup I39 (rfC t0 0) (y40).toNatClampNeg ((I39 (rfC t0 0) (y40).toNatClampNeg) + (1 : Int32))) (fun (I44 : jI) =>
some I44) else none) else none)) else none) else none) else none)) else none)) else none) else none)) else none) else none)) else none)) else none)) else none))) (fun (k4 : jI → Option (jI)) =>
if 0 ≤ y1 then (
k4 I0)
else (
jb2 (X7_victim t0 p0 I0) (fun (y46 : Int32) (I47 : jI) =>
(X7_goesOut rec t0 p0 y46 I47).bind (fun (I49 : jI) =>
k4 I49)))))
set_option maxRecDepth 20000 in
set_option maxHeartbeats 4000000 in
theorem W_X7_placesF {Y : jY} {Z : jZ} {Qf : jI → State → Prop} (hz0 : Y.zf = false) (m : Nat) (rec : Nat → Int32 → Int32 → Int32 → Int32 → jI → Option (jI)) (hrec : ∀ (t0 : Nat) (ht0 : shC t0 = 8) (p0 : Int32) (p1 : Int32) (p2 : Int32) (p3 : Int32) (I0 : jI) (L0 : jL) (I1 : jI) (_ : rec t0 p0 p1 p2 p3 I0 = some I1), jMet Y yX7_places cX7_places 6 none (5 + 4 * m) (174 + 200 * m) 0 0 [jr t0, ji p0, ji p1, ji p2, ji p3] NC shC rfC I0 L0 none NC shC rfC I1 L0) (t0 : Nat) (ht0 : shC t0 = 8) (p0 : Int32) (p1 : Int32) (p2 : Int32) (p3 : Int32) (I0 : jI) (L0 : jL) (hX : jOK Y Z RX7 cX7_places 6 "places" none (5 + 4 * (m + 1)) (174 + 200 * (m + 1)) 0 0) (hQ : ∀ r : jI, Qf r = jQ Y Z 0 0 none NC shC rfC r L0) : J Y Z 6 Qf (X7_placesF rec t0 p0 p1 p2 p3 I0) 0 [(0, jr t0), (1, ji p0), (2, ji p1), (3, ji p2), (4, ji p3)] [] 0 0 NC shC rfC I0 L0 := by
  unfold X7_placesF
  refine J_aload_n (pc := 0) hX 0 rfl dX7_places_0 ?_
  refine J_iload_n (pc := 1) hX 1 rfl dX7_places_1 ?_
  refine J_iconst (pc := 2) hX (v := (-1 : Int32)) (by decide) dX7_places_2 ?_
  refine J_call1 (fun y1 e2 => ?_)
  refine jrun_i (pc := 3) (jRunV hX s_X7_73 (ci := 7) (T := TX7) (N := 20) (As := [ji p0, ji (-1 : Int32)]) (rest := []) rfl (by decide) (C_X7_found Y hz0 t0 ht0 p0 (-1 : Int32) I0 L0 y1 e2) ht0 rfl rfl ⟨by omega, by omega⟩ ⟨Nat.le_of_ble_eq_true rfl, Nat.le_of_ble_eq_true rfl⟩ (Nat.le_of_ble_eq_true rfl) dX7_places_3) ?_
  refine J_join (fun (k4 : jI → Option (jI)) => ∀ (I3 : jI), J Y Z 6 Qf (k4 I3) 19 [(0, jr t0), (1, ji p0), (2, ji p1), (3, ji p2), (4, ji p3)] [] 0 0 NC shC rfC I3 L0) ?_ (fun k4 hk4 => ?_)
  · intro I3
    try dsimp only
    refine J_aload_n (pc := 19) hX 0 rfl dX7_places_19 ?_
    refine J_iload_n (pc := 20) hX 1 rfl dX7_places_20 ?_
    refine J_iconst (pc := 21) hX (v := (-1 : Int32)) (by decide) dX7_places_21 ?_
    refine J_call1 (fun y5 e6 => ?_)
    refine jrun_i (pc := 22) (jRunV hX s_X7_73 (ci := 7) (T := TX7) (N := 20) (As := [ji p0, ji (-1 : Int32)]) (rest := []) rfl (by decide) (C_X7_found Y hz0 t0 ht0 p0 (-1 : Int32) I3 L0 y5 e6) ht0 rfl rfl ⟨by omega, by omega⟩ ⟨Nat.le_of_ble_eq_true rfl, Nat.le_of_ble_eq_true rfl⟩ (Nat.le_of_ble_eq_true rfl) dX7_places_22) ?_
    refine J_istore (pc := 25) hX (lo' := [(5, ji y5), (0, jr t0), (1, ji p0), (2, ji p1), (3, ji p2), (4, ji p3)]) (by decide) rfl dX7_places_25 ?_
    refine J_aload_n (pc := 27) hX 1 rfl dX7_places_27 ?_
    refine g_X7_7 (pc := 28) hX ht0 dX7_places_28 ?_
    refine J_iload_n (pc := 31) hX 2 rfl dX7_places_31 ?_
    refine J_iload (pc := 32) hX 0 rfl dX7_places_32 ?_
    refine J_iconst (pc := 34) hX (v := (0 : Int32)) (by decide) dX7_places_34 ?_
    refine J_call1 (fun y7 e8 => ?_)
    refine jrun_i (pc := 35) (jRunS hX s_X7_55 (As := [ji p0, ji y5, ji (0 : Int32)]) (rest := [jr (rfC t0 0)]) (C_X7_slotAt Y hz0 p0 y5 (0 : Int32) I3 L0 y7 e8) rfl rfl ⟨by omega, by omega⟩ ⟨Nat.le_of_ble_eq_true rfl, Nat.le_of_ble_eq_true rfl⟩ (Nat.le_of_ble_eq_true rfl) dX7_places_35) ?_
    refine J_iload_n (pc := 38) hX 3 rfl dX7_places_38 ?_
    refine J_iast (pc := 39) hX (N := 784) (fs_7_0 t0 ht0) (by decide) dX7_places_39 (fun h9 I10 => ?_)
    refine J_aload_n (pc := 40) hX 1 rfl dX7_places_40 ?_
    refine g_X7_7 (pc := 41) hX ht0 dX7_places_41 ?_
    refine J_iload_n (pc := 44) hX 2 rfl dX7_places_44 ?_
    refine J_iload (pc := 45) hX 0 rfl dX7_places_45 ?_
    refine J_iconst (pc := 47) hX (v := (1 : Int32)) (by decide) dX7_places_47 ?_
    refine J_call1 (fun y11 e12 => ?_)
    refine jrun_i (pc := 48) (jRunS hX s_X7_55 (As := [ji p0, ji y5, ji (1 : Int32)]) (rest := [jr (rfC t0 0)]) (C_X7_slotAt Y hz0 p0 y5 (1 : Int32) I10 L0 y11 e12) rfl rfl ⟨by omega, by omega⟩ ⟨Nat.le_of_ble_eq_true rfl, Nat.le_of_ble_eq_true rfl⟩ (Nat.le_of_ble_eq_true rfl) dX7_places_48) ?_
    refine J_iload_n (pc := 51) hX 4 rfl dX7_places_51 ?_
    refine J_iast (pc := 52) hX (N := 784) (fs_7_0 t0 ht0) (by decide) dX7_places_52 (fun h13 I14 => ?_)
    refine J_aload_n (pc := 53) hX 1 rfl dX7_places_53 ?_
    refine g_X7_7 (pc := 54) hX ht0 dX7_places_54 ?_
    refine J_iload_n (pc := 57) hX 2 rfl dX7_places_57 ?_
    refine J_iload (pc := 58) hX 0 rfl dX7_places_58 ?_
    refine J_iconst (pc := 60) hX (v := (2 : Int32)) (by decide) dX7_places_60 ?_
    refine J_call1 (fun y15 e16 => ?_)
    refine jrun_i (pc := 61) (jRunS hX s_X7_55 (As := [ji p0, ji y5, ji (2 : Int32)]) (rest := [jr (rfC t0 0)]) (C_X7_slotAt Y hz0 p0 y5 (2 : Int32) I14 L0 y15 e16) rfl rfl ⟨by omega, by omega⟩ ⟨Nat.le_of_ble_eq_true rfl, Nat.le_of_ble_eq_true rfl⟩ (Nat.le_of_ble_eq_true rfl) dX7_places_61) ?_
    refine J_iload (pc := 64) hX 5 rfl dX7_places_64 ?_
    refine J_iast (pc := 66) hX (N := 784) (fs_7_0 t0 ht0) (by decide) dX7_places_66 (fun h17 I18 => ?_)
    refine J_aload_n (pc := 67) hX 1 rfl dX7_places_67 ?_
    refine g_X7_7 (pc := 68) hX ht0 dX7_places_68 ?_
    refine J_iload_n (pc := 71) hX 2 rfl dX7_places_71 ?_
    refine J_iload (pc := 72) hX 0 rfl dX7_places_72 ?_
    refine J_iconst (pc := 74) hX (v := (3 : Int32)) (by decide) dX7_places_74 ?_
    refine J_call1 (fun y19 e20 => ?_)
    refine jrun_i (pc := 75) (jRunS hX s_X7_55 (As := [ji p0, ji y5, ji (3 : Int32)]) (rest := [jr (rfC t0 0)]) (C_X7_slotAt Y hz0 p0 y5 (3 : Int32) I18 L0 y19 e20) rfl rfl ⟨by omega, by omega⟩ ⟨Nat.le_of_ble_eq_true rfl, Nat.le_of_ble_eq_true rfl⟩ (Nat.le_of_ble_eq_true rfl) dX7_places_75) ?_
    refine J_aload_n (pc := 78) hX 1 rfl dX7_places_78 ?_
    refine g_X7_7 (pc := 79) hX ht0 dX7_places_79 ?_
    refine J_sipush (pc := 82) hX (v := (700 : Int32)) (by decide) dX7_places_82 ?_
    refine J_iald (pc := 85) hX (N := 784) (fs_7_0 t0 ht0) (by decide) dX7_places_85 (fun h21 => ?_)
    refine J_iast (pc := 86) hX (N := 784) (fs_7_0 t0 ht0) (by decide) dX7_places_86 (fun h22 I23 => ?_)
    refine J_aload_n (pc := 87) hX 1 rfl dX7_places_87 ?_
    refine g_X7_7 (pc := 88) hX ht0 dX7_places_88 ?_
    refine J_iload_n (pc := 91) hX 2 rfl dX7_places_91 ?_
    refine J_iload (pc := 92) hX 0 rfl dX7_places_92 ?_
    refine J_iconst (pc := 94) hX (v := (4 : Int32)) (by decide) dX7_places_94 ?_
    refine J_call1 (fun y24 e25 => ?_)
    refine jrun_i (pc := 95) (jRunS hX s_X7_55 (As := [ji p0, ji y5, ji (4 : Int32)]) (rest := [jr (rfC t0 0)]) (C_X7_slotAt Y hz0 p0 y5 (4 : Int32) I23 L0 y24 e25) rfl rfl ⟨by omega, by omega⟩ ⟨Nat.le_of_ble_eq_true rfl, Nat.le_of_ble_eq_true rfl⟩ (Nat.le_of_ble_eq_true rfl) dX7_places_95) ?_
    refine J_aload_n (pc := 98) hX 1 rfl dX7_places_98 ?_
    refine g_X7_7 (pc := 99) hX ht0 dX7_places_99 ?_
    refine J_sipush (pc := 102) hX (v := (693 : Int32)) (by decide) dX7_places_102 ?_
    refine J_iald (pc := 105) hX (N := 784) (fs_7_0 t0 ht0) (by decide) dX7_places_105 (fun h26 => ?_)
    refine J_iast (pc := 106) hX (N := 784) (fs_7_0 t0 ht0) (by decide) dX7_places_106 (fun h27 I28 => ?_)
    refine J_aload_n (pc := 107) hX 1 rfl dX7_places_107 ?_
    refine g_X7_7 (pc := 108) hX ht0 dX7_places_108 ?_
    refine J_iload_n (pc := 111) hX 2 rfl dX7_places_111 ?_
    refine J_iload (pc := 112) hX 0 rfl dX7_places_112 ?_
    refine J_iconst (pc := 114) hX (v := (5 : Int32)) (by decide) dX7_places_114 ?_
    refine J_call1 (fun y29 e30 => ?_)
    refine jrun_i (pc := 115) (jRunS hX s_X7_55 (As := [ji p0, ji y5, ji (5 : Int32)]) (rest := [jr (rfC t0 0)]) (C_X7_slotAt Y hz0 p0 y5 (5 : Int32) I28 L0 y29 e30) rfl rfl ⟨by omega, by omega⟩ ⟨Nat.le_of_ble_eq_true rfl, Nat.le_of_ble_eq_true rfl⟩ (Nat.le_of_ble_eq_true rfl) dX7_places_115) ?_
    refine J_iconst (pc := 118) hX (v := (1 : Int32)) (by decide) dX7_places_118 ?_
    refine J_iast (pc := 119) hX (N := 784) (fs_7_0 t0 ht0) (by decide) dX7_places_119 (fun h31 I32 => ?_)
    refine J_aload_n (pc := 120) hX 1 rfl dX7_places_120 ?_
    refine g_X7_7 (pc := 121) hX ht0 dX7_places_121 ?_
    refine J_iload_n (pc := 124) hX 2 rfl dX7_places_124 ?_
    refine J_iload (pc := 125) hX 0 rfl dX7_places_125 ?_
    refine J_bipush (pc := 127) hX (v := (6 : Int32)) (by decide) dX7_places_127 ?_
    refine J_call1 (fun y33 e34 => ?_)
    refine jrun_i (pc := 129) (jRunS hX s_X7_55 (As := [ji p0, ji y5, ji (6 : Int32)]) (rest := [jr (rfC t0 0)]) (C_X7_slotAt Y hz0 p0 y5 (6 : Int32) I32 L0 y33 e34) rfl rfl ⟨by omega, by omega⟩ ⟨Nat.le_of_ble_eq_true rfl, Nat.le_of_ble_eq_true rfl⟩ (Nat.le_of_ble_eq_true rfl) dX7_places_129) ?_
    refine J_iconst (pc := 132) hX (v := (0 : Int32)) (by decide) dX7_places_132 ?_
    refine J_iast (pc := 133) hX (N := 784) (fs_7_0 t0 ht0) (by decide) dX7_places_133 (fun h35 I36 => ?_)
    refine J_aload_n (pc := 134) hX 1 rfl dX7_places_134 ?_
    refine g_X7_7 (pc := 135) hX ht0 dX7_places_135 ?_
    refine J_sipush (pc := 138) hX (v := (700 : Int32)) (by decide) dX7_places_138 ?_
    refine J_dup2 (pc := 141) hX rfl rfl dX7_places_141 ?_
    refine J_iald (pc := 142) hX (N := 784) (fs_7_0 t0 ht0) (by decide) dX7_places_142 (fun h37 => ?_)
    refine J_iconst (pc := 143) hX (v := (1 : Int32)) (by decide) dX7_places_143 ?_
    refine J_iadd (pc := 144) hX dX7_places_144 ?_
    refine J_iast (pc := 145) hX (N := 784) (fs_7_0 t0 ht0) (by decide) dX7_places_145 (fun h38 I39 => ?_)
    refine J_aload_n (pc := 146) hX 1 rfl dX7_places_146 ?_
    refine g_X7_7 (pc := 147) hX ht0 dX7_places_147 ?_
    refine J_iload_n (pc := 150) hX 2 rfl dX7_places_150 ?_
    refine J_bipush (pc := 151) hX (v := (6 : Int32)) (by decide) dX7_places_151 ?_
    refine J_call1 (fun y40 e41 => ?_)
    refine jrun_i (pc := 153) (jRunS hX s_X7_51 (As := [ji p0, ji (6 : Int32)]) (rest := [jr (rfC t0 0)]) (C_X7_at Y hz0 p0 (6 : Int32) I39 L0 y40 e41) rfl rfl ⟨by omega, by omega⟩ ⟨Nat.le_of_ble_eq_true rfl, Nat.le_of_ble_eq_true rfl⟩ (Nat.le_of_ble_eq_true rfl) dX7_places_153) ?_
    refine J_dup2 (pc := 156) hX rfl rfl dX7_places_156 ?_
    refine J_iald (pc := 157) hX (N := 784) (fs_7_0 t0 ht0) (by decide) dX7_places_157 (fun h42 => ?_)
    refine J_iconst (pc := 158) hX (v := (1 : Int32)) (by decide) dX7_places_158 ?_
    refine J_iadd (pc := 159) hX dX7_places_159 ?_
    refine J_iast (pc := 160) hX (N := 784) (fs_7_0 t0 ht0) (by decide) dX7_places_160 (fun h43 I44 => ?_)
    exact J_vret (pc := 161) hX (hQ _) dX7_places_161
  refine J_if_ge (pc := 6) hX (tgt := 19) (by decide) dX7_places_6 (fun h45 => ?_) (fun h45 => ?_)
  · exact hk4 I0
  · refine J_aload_n (pc := 9) hX 0 rfl dX7_places_9 ?_
    refine J_iload_n (pc := 10) hX 1 rfl dX7_places_10 ?_
    refine J_aload_n (pc := 11) hX 0 rfl dX7_places_11 ?_
    refine J_iload_n (pc := 12) hX 1 rfl dX7_places_12 ?_
    refine J_call2 (fun y46 I47 e48 => ?_)
    refine jrun_i (pc := 13) (jRunV hX s_X7_88 (ci := 7) (T := TX7) (N := 20) (As := [ji p0]) (rest := [ji p0, jr t0]) rfl (by decide) (C_X7_victim Y hz0 t0 ht0 p0 I0 L0 y46 I47 e48) ht0 rfl rfl ⟨by omega, by omega⟩ ⟨Nat.le_of_ble_eq_true rfl, Nat.le_of_ble_eq_true rfl⟩ (Nat.le_of_ble_eq_true rfl) dX7_places_13) ?_
    refine J_call1 (fun I49 e50 => ?_)
    refine jrun_v (pc := 16) (jRunV hX s_X7_91 (ci := 7) (T := TX7) (N := 20) (As := [ji p0, ji y46]) (rest := []) rfl (by decide) (C_X7_goesOut Y hz0 m rec hrec t0 ht0 p0 y46 I47 L0 I49 e50) ht0 rfl rfl ⟨by omega, by omega⟩ ⟨Nat.le_of_ble_eq_true rfl, Nat.le_of_ble_eq_true rfl⟩ (Nat.le_of_ble_eq_true rfl) dX7_places_16) ?_
    exact hk4 I49
theorem C_X7_placesF (Y : jY) (hz0 : Y.zf = false) (m : Nat) (rec : Nat → Int32 → Int32 → Int32 → Int32 → jI → Option (jI)) (hrec : ∀ (t0 : Nat) (ht0 : shC t0 = 8) (p0 : Int32) (p1 : Int32) (p2 : Int32) (p3 : Int32) (I0 : jI) (L0 : jL) (I1 : jI) (_ : rec t0 p0 p1 p2 p3 I0 = some I1), jMet Y yX7_places cX7_places 6 none (5 + 4 * m) (174 + 200 * m) 0 0 [jr t0, ji p0, ji p1, ji p2, ji p3] NC shC rfC I0 L0 none NC shC rfC I1 L0) (t0 : Nat) (ht0 : shC t0 = 8) (p0 : Int32) (p1 : Int32) (p2 : Int32) (p3 : Int32) (I0 : jI) (L0 : jL) (I1 : jI) (h : X7_placesF rec t0 p0 p1 p2 p3 I0 = some I1) : jMet Y yX7_places cX7_places 6 none (5 + 4 * (m + 1)) (174 + 200 * (m + 1)) 0 0 [jr t0, ji p0, ji p1, ji p2, ji p3] NC shC rfC I0 L0 none NC shC rfC I1 L0 :=
  jmet_of _ _ h (fun Z r => jQ Y Z 0 0 none NC shC rfC r L0) (fun _ => rfl) (by decide) (Nat.le_of_ble_eq_true rfl) (fun Z hX => W_X7_placesF hz0 m rec hrec t0 ht0 p0 p1 p2 p3 I0 L0 hX (fun _ => rfl))
def X7_places (m : Nat) : Nat → Int32 → Int32 → Int32 → Int32 → jI → Option (jI) := jfx X7_placesF (fun _ _ _ _ _ _ => none) m
theorem C_X7_places (Y : jY) (hz0 : Y.zf = false) (m : Nat) : ∀ (t0 : Nat) (ht0 : shC t0 = 8) (p0 : Int32) (p1 : Int32) (p2 : Int32) (p3 : Int32) (I0 : jI) (L0 : jL) (I1 : jI) (_ : (X7_places m) t0 p0 p1 p2 p3 I0 = some I1), jMet Y yX7_places cX7_places 6 none (5 + 4 * m) (174 + 200 * m) 0 0 [jr t0, ji p0, ji p1, ji p2, ji p3] NC shC rfC I0 L0 none NC shC rfC I1 L0 := by
  refine jfx_J (fun (m : Nat) (rec : Nat → Int32 → Int32 → Int32 → Int32 → jI → Option (jI)) => ∀ (t0 : Nat) (ht0 : shC t0 = 8) (p0 : Int32) (p1 : Int32) (p2 : Int32) (p3 : Int32) (I0 : jI) (L0 : jL) (I1 : jI) (_ : rec t0 p0 p1 p2 p3 I0 = some I1), jMet Y yX7_places cX7_places 6 none (5 + 4 * m) (174 + 200 * m) 0 0 [jr t0, ji p0, ji p1, ji p2, ji p3] NC shC rfC I0 L0 none NC shC rfC I1 L0) ?_ (fun m rec hrec => ?_) m
  · intros
    next h => cases h
  · intro t0 ht0 p0 p1 p2 p3 I0 L0 I1 h
    exact C_X7_placesF Y hz0 m rec hrec t0 ht0 p0 p1 p2 p3 I0 L0 I1 h
def X7_looks_F1 (t0 : Nat) (p0 : Int32) (v19 : Int32) (k28 : jI → Option (Int32 × jI)) (g34 : Int32 → jI → Option (Int32 × jI)) : Int32 → jI → Option (Int32 × jI) := fun (v32 : Int32) (I33 : jI) =>
if v32 < 0 then (
k28 I33)
else (
if jin (689 : Int32) 784 then (
if (I33 (rfC t0 0) ((689 : Int32)).toNatClampNeg) = (2 : Int32) then (
k28 I33)
else (
(X7_places 10 t0 v32 p0 v19 (0 : Int32) I33).bind (fun (I38 : jI) =>
g34 (v32 + (-1 : Int32)) I38))) else none)
def X7_looks_F2 (t0 : Nat) (p0 : Int32) (k10 : Int32 → jI → Option (Int32 × jI)) (g94 : Int32 → jI → Option (Int32 × jI)) : Int32 → jI → Option (Int32 × jI) := fun (v92 : Int32) (I93 : jI) =>
if jin (688 : Int32) 784 then (
if (I93 (rfC t0 0) ((688 : Int32)).toNatClampNeg) ≤ v92 then (
k10 v92 I93)
else (
(X7_found t0 v92 p0 I93).bind (fun (y97 : Int32) =>
if 0 ≤ y97 then (
k10 v92 I93)
else (
(X7_at v92 (5 : Int32)).bind (fun (y100 : Int32) =>
if jin y100 784 then (
if jin y100 784 then jlet (jup I93 (rfC t0 0) (y100).toNatClampNeg ((I93 (rfC t0 0) (y100).toNatClampNeg) + (1 : Int32))) (fun (I104 : jI) =>
(X7_of t0 v92 (1 : Int32) I104).bind (fun (y105 : Int32) =>
jlet (jup I104 t0 5 ((I104 t0 5) + y105)) (fun (I107 : jI) =>
g94 (v92 + (1 : Int32)) I107))) else none) else none))))) else none
def X7_looks (t0 : Nat) (p0 : Int32) (I0 : jI) : Option (Int32 × jI) :=
if jin (693 : Int32) 784 then (
if jin (693 : Int32) 784 then jlet (jup I0 (rfC t0 0) ((693 : Int32)).toNatClampNeg ((I0 (rfC t0 0) ((693 : Int32)).toNatClampNeg) + (1 : Int32))) (fun (I3 : jI) =>
if jin ((64 : Int32) + p0) 784 then (
if jin ((64 : Int32) + p0) 784 then jlet (jup I3 (rfC t0 0) (((64 : Int32) + p0)).toNatClampNeg ((I3 (rfC t0 0) (((64 : Int32) + p0)).toNatClampNeg) + (1 : Int32))) (fun (I6 : jI) =>
jlet (jup I6 t0 5 (0 : Int32)) (fun (I7 : jI) =>
jlet (fun (v8 : Int32) (I9 : jI) =>
if jin (688 : Int32) 784 then (
jlet (if v8 = (I9 (rfC t0 0) ((688 : Int32)).toNatClampNeg) then (1 : Int32) else (0 : Int32)) (fun (y13 : Int32) =>
jlet (if y13 = 0 then (v8 + (1 : Int32)) else (0 : Int32)) (fun (y15 : Int32) =>
jlet (jup I9 t0 6 y15) (fun (I16 : jI) =>
if jin p0 784 then (
jlet ((I16 (rfC t0 0) (p0).toNatClampNeg)) (fun (y18 : Int32) =>
jlet (fun (v19 : Int32) (v20 : Int32) (I21 : jI) =>
if jin (689 : Int32) 784 then (
jlet (fun (I24 : jI) =>
jlet ((v8 - (1 : Int32))) (fun (y26 : Int32) =>
jlet (fun (I27 : jI) =>
if jin (698 : Int32) 784 then (
if jin (698 : Int32) 784 then jlet (jup I27 (rfC t0 0) ((698 : Int32)).toNatClampNeg ((I27 (rfC t0 0) ((698 : Int32)).toNatClampNeg) + (I27 t0 5))) (fun (I31 : jI) =>
some (v19, I31)) else none) else none) (fun (k28 : jI → Option (Int32 × jI)) =>
jfx (X7_looks_F1 t0 p0 v19 k28) (fun _ _ => none) 1000 y26 I24))) (fun (k25 : jI → Option (Int32 × jI)) =>
if (I21 (rfC t0 0) ((689 : Int32)).toNatClampNeg) = (2 : Int32) then (
if v8 ≤ 0 then (
k25 I21)
else (
(X7_places 10 t0 (0 : Int32) p0 v19 v20 I21).bind (fun (I42 : jI) =>
k25 I42)))
else (
k25 I21))) else none) (fun (k22 : Int32 → Int32 → jI → Option (Int32 × jI)) =>
if y13 = 0 then (
(X7_found t0 v8 p0 I16).bind (fun (y45 : Int32) =>
(X7_at v8 (4 : Int32)).bind (fun (y47 : Int32) =>
if jin y47 784 then (
if jin y47 784 then jlet (jup I16 (rfC t0 0) (y47).toNatClampNeg ((I16 (rfC t0 0) (y47).toNatClampNeg) + (1 : Int32))) (fun (I51 : jI) =>
(X7_of t0 v8 (1 : Int32) I51).bind (fun (y52 : Int32) =>
jlet (jup I51 t0 5 ((I51 t0 5) + y52)) (fun (I54 : jI) =>
(X7_note t0 v8 y45 (1 : Int32) I54).bind (fun (y55 : Int32) =>
(X7_note t0 v8 y45 (2 : Int32) I54).bind (fun (y57 : Int32) =>
(X7_slotAt v8 y45 (4 : Int32)).bind (fun (y59 : Int32) =>
if jin (693 : Int32) 784 then (
if jin y59 784 then jlet (jup I54 (rfC t0 0) (y59).toNatClampNeg (I54 (rfC t0 0) ((693 : Int32)).toNatClampNeg)) (fun (I63 : jI) =>
(X7_slotAt v8 y45 (5 : Int32)).bind (fun (y64 : Int32) =>
if jin y64 784 then (
if jin y64 784 then jlet (jup I63 (rfC t0 0) (y64).toNatClampNeg ((I63 (rfC t0 0) (y64).toNatClampNeg) + (1 : Int32))) (fun (I68 : jI) =>
(X7_slotAt v8 y45 (6 : Int32)).bind (fun (y69 : Int32) =>
if jin y69 784 then jlet (jup I68 (rfC t0 0) (y69).toNatClampNeg (1 : Int32)) (fun (I72 : jI) =>
if jin (689 : Int32) 784 then (
if (I72 (rfC t0 0) ((689 : Int32)).toNatClampNeg) = (2 : Int32) then (
if v8 ≤ 0 then (
k22 y55 y57 I72)
else (
(X7_empties t0 v8 y45 I72).bind (fun (I76 : jI) =>
k22 y55 y57 I76)))
else (
k22 y55 y57 I72)) else none) else none)) else none) else none)) else none) else none)))))) else none) else none)))
else (
if jin (692 : Int32) 784 then (
jlet (jup I16 t0 5 ((I16 t0 5) + (I16 (rfC t0 0) ((692 : Int32)).toNatClampNeg))) (fun (I79 : jI) =>
if jin (694 : Int32) 784 then (
jlet (fun (v81 : Int32) =>
if jin (694 : Int32) 784 then jlet (jup I79 (rfC t0 0) ((694 : Int32)).toNatClampNeg v81) (fun (I84 : jI) =>
if jin (695 : Int32) 784 then jlet (jup I84 (rfC t0 0) ((695 : Int32)).toNatClampNeg p0) (fun (I86 : jI) =>
k22 y18 (0 : Int32) I86) else none) else none) (fun (k82 : Int32 → Option (Int32 × jI)) =>
jlet (
k82 (1 : Int32)) (fun (k87 : Option (Int32 × jI)) =>
if (I79 (rfC t0 0) ((694 : Int32)).toNatClampNeg) ≤ 0 then (
k87)
else (
if jin (695 : Int32) 784 then (
if p0 = ((I79 (rfC t0 0) ((695 : Int32)).toNatClampNeg) + (1 : Int32)) then (
if jin (694 : Int32) 784 then (
k82 ((I79 (rfC t0 0) ((694 : Int32)).toNatClampNeg) + (1 : Int32))) else none)
else (
k87)) else none)))) else none)) else none)))) else none)))) else none) (fun (k10 : Int32 → jI → Option (Int32 × jI)) =>
jfx (X7_looks_F2 t0 p0 k10) (fun _ _ => none) 1000 (0 : Int32) I7))) else none) else none) else none) else none
set_option maxRecDepth 20000 in
set_option maxHeartbeats 4000000 in
theorem W_X7_looks {Y : jY} {Z : jZ} {Qf : Int32 × jI → State → Prop} (hz0 : Y.zf = false) (t0 : Nat) (ht0 : shC t0 = 8) (p0 : Int32) (I0 : jI) (L0 : jL) (hX : jOK Y Z RX7 cX7_looks 7 "looks" (some .int) 46 2199 0 0) (hQ : ∀ r : Int32 × jI, Qf r = jQ Y Z 0 0 (some (ji r.1)) NC shC rfC r.2 L0) : J Y Z 7 Qf (X7_looks t0 p0 I0) 0 [(0, jr t0), (1, ji p0)] [] 0 0 NC shC rfC I0 L0 := by
  unfold X7_looks
  refine J_aload_n (pc := 0) hX 0 rfl dX7_looks_0 ?_
  refine g_X7_7 (pc := 1) hX ht0 dX7_looks_1 ?_
  refine J_sipush (pc := 4) hX (v := (693 : Int32)) (by decide) dX7_looks_4 ?_
  refine J_dup2 (pc := 7) hX rfl rfl dX7_looks_7 ?_
  refine J_iald (pc := 8) hX (N := 784) (fs_7_0 t0 ht0) (by decide) dX7_looks_8 (fun h1 => ?_)
  refine J_iconst (pc := 9) hX (v := (1 : Int32)) (by decide) dX7_looks_9 ?_
  refine J_iadd (pc := 10) hX dX7_looks_10 ?_
  refine J_iast (pc := 11) hX (N := 784) (fs_7_0 t0 ht0) (by decide) dX7_looks_11 (fun h2 I3 => ?_)
  refine J_aload_n (pc := 12) hX 0 rfl dX7_looks_12 ?_
  refine g_X7_7 (pc := 13) hX ht0 dX7_looks_13 ?_
  refine J_bipush (pc := 16) hX (v := (64 : Int32)) (by decide) dX7_looks_16 ?_
  refine J_iload_n (pc := 18) hX 1 rfl dX7_looks_18 ?_
  refine J_iadd (pc := 19) hX dX7_looks_19 ?_
  refine J_dup2 (pc := 20) hX rfl rfl dX7_looks_20 ?_
  refine J_iald (pc := 21) hX (N := 784) (fs_7_0 t0 ht0) (by decide) dX7_looks_21 (fun h4 => ?_)
  refine J_iconst (pc := 22) hX (v := (1 : Int32)) (by decide) dX7_looks_22 ?_
  refine J_iadd (pc := 23) hX dX7_looks_23 ?_
  refine J_iast (pc := 24) hX (N := 784) (fs_7_0 t0 ht0) (by decide) dX7_looks_24 (fun h5 I6 => ?_)
  refine J_aload_n (pc := 25) hX 0 rfl dX7_looks_25 ?_
  refine J_iconst (pc := 26) hX (v := (0 : Int32)) (by decide) dX7_looks_26 ?_
  refine p_X7_94 (pc := 27) hX ht0 dX7_looks_27 (fun I7 => ?_)
  refine J_iconst (pc := 30) hX (v := (0 : Int32)) (by decide) dX7_looks_30 ?_
  refine J_istore_n (pc := 31) hX (lo' := [(2, ji (0 : Int32)), (0, jr t0), (1, ji p0)]) (by decide) rfl dX7_looks_31 ?_
  refine J_join (fun (k10 : Int32 → jI → Option (Int32 × jI)) => ∀ (v8 : Int32) (I9 : jI), J Y Z 7 Qf (k10 v8 I9) 88 [(0, jr t0), (1, ji p0), (2, ji v8)] [] 0 0 NC shC rfC I9 L0) ?_ (fun k10 hk10 => ?_)
  · intro v8 I9
    try dsimp only
    refine J_iload_n (pc := 88) hX 2 rfl dX7_looks_88 ?_
    refine J_aload_n (pc := 89) hX 0 rfl dX7_looks_89 ?_
    refine g_X7_7 (pc := 90) hX ht0 dX7_looks_90 ?_
    refine J_sipush (pc := 93) hX (v := (688 : Int32)) (by decide) dX7_looks_93 ?_
    refine J_iald (pc := 96) hX (N := 784) (fs_7_0 t0 ht0) (by decide) dX7_looks_96 (fun h11 => ?_)
    refine J_vjoin (fun kq (y13 : Int32) => J Y Z 7 Qf (kq) 105 [(0, jr t0), (1, ji p0), (2, ji v8)] [ji y13] 0 0 NC shC rfC I9 L0) (fun y13 => ?_) (fun hj => ?_)
    · try dsimp only
      refine J_istore_n (pc := 105) hX (lo' := [(3, ji y13), (0, jr t0), (1, ji p0), (2, ji v8)]) (by decide) rfl dX7_looks_105 ?_
      refine J_aload_n (pc := 106) hX 1 rfl dX7_looks_106 ?_
      refine J_iload_n (pc := 107) hX 0 rfl dX7_looks_107 ?_
      refine J_vjoin (fun kq (y15 : Int32) => J Y Z 7 Qf (kq) 118 [(3, ji y13), (0, jr t0), (1, ji p0), (2, ji v8)] [ji y15, jr t0] 0 0 NC shC rfC I9 L0) (fun y15 => ?_) (fun hj => ?_)
      · try dsimp only
        refine p_X7_98 (pc := 118) hX ht0 dX7_looks_118 (fun I16 => ?_)
        refine J_aload_n (pc := 121) hX 1 rfl dX7_looks_121 ?_
        refine g_X7_7 (pc := 122) hX ht0 dX7_looks_122 ?_
        refine J_iload_n (pc := 125) hX 2 rfl dX7_looks_125 ?_
        refine J_iald (pc := 126) hX (N := 784) (fs_7_0 t0 ht0) (by decide) dX7_looks_126 (fun h17 => ?_)
        refine J_leti (fun y18 => ?_)
        refine J_istore (pc := 127) hX (lo' := [(4, ji y18), (3, ji y13), (0, jr t0), (1, ji p0), (2, ji v8)]) (by decide) rfl dX7_looks_127 ?_
        refine J_iconst (pc := 129) hX (v := (0 : Int32)) (by decide) dX7_looks_129 ?_
        refine J_istore (pc := 130) hX (lo' := [(5, ji (0 : Int32)), (4, ji y18), (3, ji y13), (0, jr t0), (1, ji p0), (2, ji v8)]) (by decide) rfl dX7_looks_130 ?_
        refine J_iload_n (pc := 132) hX 2 rfl dX7_looks_132 ?_
        refine J_join (fun (k22 : Int32 → Int32 → jI → Option (Int32 × jI)) => ∀ (v19 : Int32) (v20 : Int32) (I21 : jI), J Y Z 7 Qf (k22 v19 v20 I21) 342 [(0, jr t0), (1, ji p0), (2, ji v8), (4, ji v19), (5, ji v20)] [] 0 0 NC shC rfC I21 L0) ?_ (fun k22 hk22 => ?_)
        · intro v19 v20 I21
          try dsimp only
          refine J_aload_n (pc := 342) hX 0 rfl dX7_looks_342 ?_
          refine g_X7_7 (pc := 343) hX ht0 dX7_looks_343 ?_
          refine J_sipush (pc := 346) hX (v := (689 : Int32)) (by decide) dX7_looks_346 ?_
          refine J_iald (pc := 349) hX (N := 784) (fs_7_0 t0 ht0) (by decide) dX7_looks_349 (fun h23 => ?_)
          refine J_iconst (pc := 350) hX (v := (2 : Int32)) (by decide) dX7_looks_350 ?_
          refine J_join (fun (k25 : jI → Option (Int32 × jI)) => ∀ (I24 : jI), J Y Z 7 Qf (k25 I24) 368 [(0, jr t0), (1, ji p0), (2, ji v8), (4, ji v19)] [] 0 0 NC shC rfC I24 L0) ?_ (fun k25 hk25 => ?_)
          · intro I24
            try dsimp only
            refine J_iload_n (pc := 368) hX 2 rfl dX7_looks_368 ?_
            refine J_iconst (pc := 369) hX (v := (1 : Int32)) (by decide) dX7_looks_369 ?_
            refine J_isub (pc := 370) hX dX7_looks_370 ?_
            refine J_leti (fun y26 => ?_)
            refine J_istore (pc := 371) hX (lo' := [(6, ji y26), (0, jr t0), (1, ji p0), (2, ji v8), (4, ji v19)]) (by decide) rfl dX7_looks_371 ?_
            refine J_join (fun (k28 : jI → Option (Int32 × jI)) => ∀ (I27 : jI), J Y Z 7 Qf (k28 I27) 406 [(0, jr t0), (4, ji v19)] [] 0 0 NC shC rfC I27 L0) ?_ (fun k28 hk28 => ?_)
            · intro I27
              try dsimp only
              refine J_aload_n (pc := 406) hX 0 rfl dX7_looks_406 ?_
              refine g_X7_7 (pc := 407) hX ht0 dX7_looks_407 ?_
              refine J_sipush (pc := 410) hX (v := (698 : Int32)) (by decide) dX7_looks_410 ?_
              refine J_dup2 (pc := 413) hX rfl rfl dX7_looks_413 ?_
              refine J_iald (pc := 414) hX (N := 784) (fs_7_0 t0 ht0) (by decide) dX7_looks_414 (fun h29 => ?_)
              refine J_aload_n (pc := 415) hX 0 rfl dX7_looks_415 ?_
              refine g_X7_94 (pc := 416) hX ht0 dX7_looks_416 ?_
              refine J_iadd (pc := 419) hX dX7_looks_419 ?_
              refine J_iast (pc := 420) hX (N := 784) (fs_7_0 t0 ht0) (by decide) dX7_looks_420 (fun h30 I31 => ?_)
              refine J_iload (pc := 421) hX 1 rfl dX7_looks_421 ?_
              exact J_iret (pc := 423) hX (hQ _) dX7_looks_423
            have lhg34 : ∀ mq : Nat, ∀ (v32 : Int32) (I33 : jI), J Y Z 7 Qf (jfx (X7_looks_F1 t0 p0 v19 k28) (fun _ _ => none) mq v32 I33) 373 [(0, jr t0), (1, ji p0), (4, ji v19), (6, ji v32)] [] 0 0 NC shC rfC I33 L0 := by
              intro mq
              refine jfx_J (fun (_ : Nat) (g34 : Int32 → jI → Option (Int32 × jI)) => ∀ (v32 : Int32) (I33 : jI), J Y Z 7 Qf (g34 v32 I33) 373 [(0, jr t0), (1, ji p0), (4, ji v19), (6, ji v32)] [] 0 0 NC shC rfC I33 L0) ?_ (fun _ g34 hg34 => ?_) mq
              · intro v32 I33
                exact J_none
              intro v32 I33
              unfold X7_looks_F1
              try dsimp only
              refine J_iload (pc := 373) hX 3 rfl dX7_looks_373 ?_
              refine J_if_lt (pc := 375) hX (tgt := 406) (by decide) dX7_looks_375 (fun h35 => ?_) (fun h35 => ?_)
              · refine J_sub [0, 2] rfl ?_
                exact hk28 I33
              · refine J_aload_n (pc := 378) hX 0 rfl dX7_looks_378 ?_
                refine g_X7_7 (pc := 379) hX ht0 dX7_looks_379 ?_
                refine J_sipush (pc := 382) hX (v := (689 : Int32)) (by decide) dX7_looks_382 ?_
                refine J_iald (pc := 385) hX (N := 784) (fs_7_0 t0 ht0) (by decide) dX7_looks_385 (fun h36 => ?_)
                refine J_iconst (pc := 386) hX (v := (2 : Int32)) (by decide) dX7_looks_386 ?_
                refine J_icmp_eq (pc := 387) hX (tgt := 406) (by decide) dX7_looks_387 (fun h37 => ?_) (fun h37 => ?_)
                · refine J_sub [0, 2] rfl ?_
                  exact hk28 I33
                · refine J_aload_n (pc := 390) hX 0 rfl dX7_looks_390 ?_
                  refine J_iload (pc := 391) hX 3 rfl dX7_looks_391 ?_
                  refine J_iload_n (pc := 393) hX 1 rfl dX7_looks_393 ?_
                  refine J_iload (pc := 394) hX 2 rfl dX7_looks_394 ?_
                  refine J_iconst (pc := 396) hX (v := (0 : Int32)) (by decide) dX7_looks_396 ?_
                  refine J_call1 (fun I38 e39 => ?_)
                  refine jrun_v (pc := 397) (jRunV hX s_X7_80 (ci := 7) (T := TX7) (N := 20) (As := [ji v32, ji p0, ji v19, ji (0 : Int32)]) (rest := []) rfl (by decide) (C_X7_places Y hz0 10 t0 ht0 v32 p0 v19 (0 : Int32) I33 L0 I38 e39) ht0 rfl rfl ⟨by decide, by decide⟩ ⟨Nat.le_of_ble_eq_true rfl, Nat.le_of_ble_eq_true rfl⟩ (Nat.le_of_ble_eq_true rfl) dX7_looks_397) ?_
                  refine J_iinc (pc := 400) hX (v := (v32 + (-1 : Int32))) (lo' := [(6, ji (v32 + (-1 : Int32))), (0, jr t0), (1, ji p0), (4, ji v19)]) 3 rfl (by rfl) (by decide) rfl dX7_looks_400 ?_
                  refine J_goto (pc := 403) hX (tgt := 373) (by decide) dX7_looks_403 ?_
                  refine J_sub [1, 2, 3, 0] rfl ?_
                  exact hg34 (v32 + (-1 : Int32)) I38
            refine J_sub [1, 2, 4, 0] rfl ?_
            exact lhg34 1000 y26 I24
          refine J_icmp_ne (pc := 351) hX (tgt := 368) (by decide) dX7_looks_351 (fun h40 => ?_) (fun h40 => ?_)
          · refine J_sub [0, 1, 2, 3] rfl ?_
            exact hk25 I21
          · refine J_iload_n (pc := 354) hX 2 rfl dX7_looks_354 ?_
            refine J_if_le (pc := 355) hX (tgt := 368) (by decide) dX7_looks_355 (fun h41 => ?_) (fun h41 => ?_)
            · refine J_sub [0, 1, 2, 3] rfl ?_
              exact hk25 I21
            · refine J_aload_n (pc := 358) hX 0 rfl dX7_looks_358 ?_
              refine J_iconst (pc := 359) hX (v := (0 : Int32)) (by decide) dX7_looks_359 ?_
              refine J_iload_n (pc := 360) hX 1 rfl dX7_looks_360 ?_
              refine J_iload (pc := 361) hX 3 rfl dX7_looks_361 ?_
              refine J_iload (pc := 363) hX 4 rfl dX7_looks_363 ?_
              refine J_call1 (fun I42 e43 => ?_)
              refine jrun_v (pc := 365) (jRunV hX s_X7_80 (ci := 7) (T := TX7) (N := 20) (As := [ji (0 : Int32), ji p0, ji v19, ji v20]) (rest := []) rfl (by decide) (C_X7_places Y hz0 10 t0 ht0 (0 : Int32) p0 v19 v20 I21 L0 I42 e43) ht0 rfl rfl ⟨by decide, by decide⟩ ⟨Nat.le_of_ble_eq_true rfl, Nat.le_of_ble_eq_true rfl⟩ (Nat.le_of_ble_eq_true rfl) dX7_looks_365) ?_
              refine J_sub [0, 1, 2, 3] rfl ?_
              exact hk25 I42
        refine J_if_eq (pc := 133) hX (tgt := 212) (by decide) dX7_looks_133 (fun h44 => ?_) (fun h44 => ?_)
        · refine J_aload_n (pc := 212) hX 3 rfl dX7_looks_212 ?_
          refine J_iload_n (pc := 213) hX 5 rfl dX7_looks_213 ?_
          refine J_iload_n (pc := 214) hX 4 rfl dX7_looks_214 ?_
          refine J_call1 (fun y45 e46 => ?_)
          refine jrun_i (pc := 215) (jRunV hX s_X7_73 (ci := 7) (T := TX7) (N := 20) (As := [ji v8, ji p0]) (rest := []) rfl (by decide) (C_X7_found Y hz0 t0 ht0 v8 p0 I16 L0 y45 e46) ht0 rfl rfl ⟨by decide, by decide⟩ ⟨Nat.le_of_ble_eq_true rfl, Nat.le_of_ble_eq_true rfl⟩ (Nat.le_of_ble_eq_true rfl) dX7_looks_215) ?_
          refine J_istore (pc := 218) hX (lo' := [(6, ji y45), (5, ji (0 : Int32)), (4, ji y18), (3, ji y13), (0, jr t0), (1, ji p0), (2, ji v8)]) (by decide) rfl dX7_looks_218 ?_
          refine J_aload_n (pc := 220) hX 4 rfl dX7_looks_220 ?_
          refine g_X7_7 (pc := 221) hX ht0 dX7_looks_221 ?_
          refine J_iload_n (pc := 224) hX 6 rfl dX7_looks_224 ?_
          refine J_iconst (pc := 225) hX (v := (4 : Int32)) (by decide) dX7_looks_225 ?_
          refine J_call1 (fun y47 e48 => ?_)
          refine jrun_i (pc := 226) (jRunS hX s_X7_51 (As := [ji v8, ji (4 : Int32)]) (rest := [jr (rfC t0 0)]) (C_X7_at Y hz0 v8 (4 : Int32) I16 L0 y47 e48) rfl rfl ⟨by decide, by decide⟩ ⟨Nat.le_of_ble_eq_true rfl, Nat.le_of_ble_eq_true rfl⟩ (Nat.le_of_ble_eq_true rfl) dX7_looks_226) ?_
          refine J_dup2 (pc := 229) hX rfl rfl dX7_looks_229 ?_
          refine J_iald (pc := 230) hX (N := 784) (fs_7_0 t0 ht0) (by decide) dX7_looks_230 (fun h49 => ?_)
          refine J_iconst (pc := 231) hX (v := (1 : Int32)) (by decide) dX7_looks_231 ?_
          refine J_iadd (pc := 232) hX dX7_looks_232 ?_
          refine J_iast (pc := 233) hX (N := 784) (fs_7_0 t0 ht0) (by decide) dX7_looks_233 (fun h50 I51 => ?_)
          refine J_aload_n (pc := 234) hX 4 rfl dX7_looks_234 ?_
          refine J_dup (pc := 235) hX rfl dX7_looks_235 ?_
          refine g_X7_94 (pc := 236) hX ht0 dX7_looks_236 ?_
          refine J_aload_n (pc := 239) hX 4 rfl dX7_looks_239 ?_
          refine J_iload_n (pc := 240) hX 6 rfl dX7_looks_240 ?_
          refine J_iconst (pc := 241) hX (v := (1 : Int32)) (by decide) dX7_looks_241 ?_
          refine J_call1 (fun y52 e53 => ?_)
          refine jrun_i (pc := 242) (jRunV hX s_X7_59 (ci := 7) (T := TX7) (N := 20) (As := [ji v8, ji (1 : Int32)]) (rest := [ji (I51 t0 5), jr t0]) rfl (by decide) (C_X7_of Y hz0 t0 ht0 v8 (1 : Int32) I51 L0 y52 e53) ht0 rfl rfl ⟨by decide, by decide⟩ ⟨Nat.le_of_ble_eq_true rfl, Nat.le_of_ble_eq_true rfl⟩ (Nat.le_of_ble_eq_true rfl) dX7_looks_242) ?_
          refine J_iadd (pc := 245) hX dX7_looks_245 ?_
          refine p_X7_94 (pc := 246) hX ht0 dX7_looks_246 (fun I54 => ?_)
          refine J_aload_n (pc := 249) hX 4 rfl dX7_looks_249 ?_
          refine J_iload_n (pc := 250) hX 6 rfl dX7_looks_250 ?_
          refine J_iload (pc := 251) hX 0 rfl dX7_looks_251 ?_
          refine J_iconst (pc := 253) hX (v := (1 : Int32)) (by decide) dX7_looks_253 ?_
          refine J_call1 (fun y55 e56 => ?_)
          refine jrun_i (pc := 254) (jRunV hX s_X7_62 (ci := 7) (T := TX7) (N := 20) (As := [ji v8, ji y45, ji (1 : Int32)]) (rest := []) rfl (by decide) (C_X7_note Y hz0 t0 ht0 v8 y45 (1 : Int32) I54 L0 y55 e56) ht0 rfl rfl ⟨by decide, by decide⟩ ⟨Nat.le_of_ble_eq_true rfl, Nat.le_of_ble_eq_true rfl⟩ (Nat.le_of_ble_eq_true rfl) dX7_looks_254) ?_
          refine J_istore (pc := 257) hX (lo' := [(4, ji y55), (6, ji y45), (5, ji (0 : Int32)), (3, ji y13), (0, jr t0), (1, ji p0), (2, ji v8)]) (by decide) rfl dX7_looks_257 ?_
          refine J_aload_n (pc := 259) hX 4 rfl dX7_looks_259 ?_
          refine J_iload_n (pc := 260) hX 6 rfl dX7_looks_260 ?_
          refine J_iload (pc := 261) hX 1 rfl dX7_looks_261 ?_
          refine J_iconst (pc := 263) hX (v := (2 : Int32)) (by decide) dX7_looks_263 ?_
          refine J_call1 (fun y57 e58 => ?_)
          refine jrun_i (pc := 264) (jRunV hX s_X7_62 (ci := 7) (T := TX7) (N := 20) (As := [ji v8, ji y45, ji (2 : Int32)]) (rest := []) rfl (by decide) (C_X7_note Y hz0 t0 ht0 v8 y45 (2 : Int32) I54 L0 y57 e58) ht0 rfl rfl ⟨by decide, by decide⟩ ⟨Nat.le_of_ble_eq_true rfl, Nat.le_of_ble_eq_true rfl⟩ (Nat.le_of_ble_eq_true rfl) dX7_looks_264) ?_
          refine J_istore (pc := 267) hX (lo' := [(5, ji y57), (4, ji y55), (6, ji y45), (3, ji y13), (0, jr t0), (1, ji p0), (2, ji v8)]) (by decide) rfl dX7_looks_267 ?_
          refine J_aload_n (pc := 269) hX 4 rfl dX7_looks_269 ?_
          refine g_X7_7 (pc := 270) hX ht0 dX7_looks_270 ?_
          refine J_iload_n (pc := 273) hX 6 rfl dX7_looks_273 ?_
          refine J_iload (pc := 274) hX 2 rfl dX7_looks_274 ?_
          refine J_iconst (pc := 276) hX (v := (4 : Int32)) (by decide) dX7_looks_276 ?_
          refine J_call1 (fun y59 e60 => ?_)
          refine jrun_i (pc := 277) (jRunS hX s_X7_55 (As := [ji v8, ji y45, ji (4 : Int32)]) (rest := [jr (rfC t0 0)]) (C_X7_slotAt Y hz0 v8 y45 (4 : Int32) I54 L0 y59 e60) rfl rfl ⟨by decide, by decide⟩ ⟨Nat.le_of_ble_eq_true rfl, Nat.le_of_ble_eq_true rfl⟩ (Nat.le_of_ble_eq_true rfl) dX7_looks_277) ?_
          refine J_aload_n (pc := 280) hX 4 rfl dX7_looks_280 ?_
          refine g_X7_7 (pc := 281) hX ht0 dX7_looks_281 ?_
          refine J_sipush (pc := 284) hX (v := (693 : Int32)) (by decide) dX7_looks_284 ?_
          refine J_iald (pc := 287) hX (N := 784) (fs_7_0 t0 ht0) (by decide) dX7_looks_287 (fun h61 => ?_)
          refine J_iast (pc := 288) hX (N := 784) (fs_7_0 t0 ht0) (by decide) dX7_looks_288 (fun h62 I63 => ?_)
          refine J_aload_n (pc := 289) hX 4 rfl dX7_looks_289 ?_
          refine g_X7_7 (pc := 290) hX ht0 dX7_looks_290 ?_
          refine J_iload_n (pc := 293) hX 6 rfl dX7_looks_293 ?_
          refine J_iload (pc := 294) hX 2 rfl dX7_looks_294 ?_
          refine J_iconst (pc := 296) hX (v := (5 : Int32)) (by decide) dX7_looks_296 ?_
          refine J_call1 (fun y64 e65 => ?_)
          refine jrun_i (pc := 297) (jRunS hX s_X7_55 (As := [ji v8, ji y45, ji (5 : Int32)]) (rest := [jr (rfC t0 0)]) (C_X7_slotAt Y hz0 v8 y45 (5 : Int32) I63 L0 y64 e65) rfl rfl ⟨by decide, by decide⟩ ⟨Nat.le_of_ble_eq_true rfl, Nat.le_of_ble_eq_true rfl⟩ (Nat.le_of_ble_eq_true rfl) dX7_looks_297) ?_
          refine J_dup2 (pc := 300) hX rfl rfl dX7_looks_300 ?_
          refine J_iald (pc := 301) hX (N := 784) (fs_7_0 t0 ht0) (by decide) dX7_looks_301 (fun h66 => ?_)
          refine J_iconst (pc := 302) hX (v := (1 : Int32)) (by decide) dX7_looks_302 ?_
          refine J_iadd (pc := 303) hX dX7_looks_303 ?_
          refine J_iast (pc := 304) hX (N := 784) (fs_7_0 t0 ht0) (by decide) dX7_looks_304 (fun h67 I68 => ?_)
          refine J_aload_n (pc := 305) hX 4 rfl dX7_looks_305 ?_
          refine g_X7_7 (pc := 306) hX ht0 dX7_looks_306 ?_
          refine J_iload_n (pc := 309) hX 6 rfl dX7_looks_309 ?_
          refine J_iload (pc := 310) hX 2 rfl dX7_looks_310 ?_
          refine J_bipush (pc := 312) hX (v := (6 : Int32)) (by decide) dX7_looks_312 ?_
          refine J_call1 (fun y69 e70 => ?_)
          refine jrun_i (pc := 314) (jRunS hX s_X7_55 (As := [ji v8, ji y45, ji (6 : Int32)]) (rest := [jr (rfC t0 0)]) (C_X7_slotAt Y hz0 v8 y45 (6 : Int32) I68 L0 y69 e70) rfl rfl ⟨by decide, by decide⟩ ⟨Nat.le_of_ble_eq_true rfl, Nat.le_of_ble_eq_true rfl⟩ (Nat.le_of_ble_eq_true rfl) dX7_looks_314) ?_
          refine J_iconst (pc := 317) hX (v := (1 : Int32)) (by decide) dX7_looks_317 ?_
          refine J_iast (pc := 318) hX (N := 784) (fs_7_0 t0 ht0) (by decide) dX7_looks_318 (fun h71 I72 => ?_)
          refine J_aload_n (pc := 319) hX 4 rfl dX7_looks_319 ?_
          refine g_X7_7 (pc := 320) hX ht0 dX7_looks_320 ?_
          refine J_sipush (pc := 323) hX (v := (689 : Int32)) (by decide) dX7_looks_323 ?_
          refine J_iald (pc := 326) hX (N := 784) (fs_7_0 t0 ht0) (by decide) dX7_looks_326 (fun h73 => ?_)
          refine J_iconst (pc := 327) hX (v := (2 : Int32)) (by decide) dX7_looks_327 ?_
          refine J_icmp_ne (pc := 328) hX (tgt := 342) (by decide) dX7_looks_328 (fun h74 => ?_) (fun h74 => ?_)
          · refine J_sub [4, 5, 6, 1, 0] rfl ?_
            exact hk22 y55 y57 I72
          · refine J_iload_n (pc := 331) hX 6 rfl dX7_looks_331 ?_
            refine J_if_le (pc := 332) hX (tgt := 342) (by decide) dX7_looks_332 (fun h75 => ?_) (fun h75 => ?_)
            · refine J_sub [4, 5, 6, 1, 0] rfl ?_
              exact hk22 y55 y57 I72
            · refine J_aload_n (pc := 335) hX 4 rfl dX7_looks_335 ?_
              refine J_iload_n (pc := 336) hX 6 rfl dX7_looks_336 ?_
              refine J_iload (pc := 337) hX 2 rfl dX7_looks_337 ?_
              refine J_call1 (fun I76 e77 => ?_)
              refine jrun_v (pc := 339) (jRunV hX s_X7_76 (ci := 7) (T := TX7) (N := 20) (As := [ji v8, ji y45]) (rest := []) rfl (by decide) (C_X7_empties Y hz0 t0 ht0 v8 y45 I72 L0 I76 e77) ht0 rfl rfl ⟨by decide, by decide⟩ ⟨Nat.le_of_ble_eq_true rfl, Nat.le_of_ble_eq_true rfl⟩ (Nat.le_of_ble_eq_true rfl) dX7_looks_339) ?_
              refine J_sub [4, 5, 6, 1, 0] rfl ?_
              exact hk22 y55 y57 I76
        · refine J_aload_n (pc := 136) hX 3 rfl dX7_looks_136 ?_
          refine J_dup (pc := 137) hX rfl dX7_looks_137 ?_
          refine g_X7_94 (pc := 138) hX ht0 dX7_looks_138 ?_
          refine J_aload_n (pc := 141) hX 3 rfl dX7_looks_141 ?_
          refine g_X7_7 (pc := 142) hX ht0 dX7_looks_142 ?_
          refine J_sipush (pc := 145) hX (v := (692 : Int32)) (by decide) dX7_looks_145 ?_
          refine J_iald (pc := 148) hX (N := 784) (fs_7_0 t0 ht0) (by decide) dX7_looks_148 (fun h78 => ?_)
          refine J_iadd (pc := 149) hX dX7_looks_149 ?_
          refine p_X7_94 (pc := 150) hX ht0 dX7_looks_150 (fun I79 => ?_)
          refine J_aload_n (pc := 153) hX 3 rfl dX7_looks_153 ?_
          refine g_X7_7 (pc := 154) hX ht0 dX7_looks_154 ?_
          refine J_sipush (pc := 157) hX (v := (694 : Int32)) (by decide) dX7_looks_157 ?_
          refine J_aload_n (pc := 160) hX 3 rfl dX7_looks_160 ?_
          refine g_X7_7 (pc := 161) hX ht0 dX7_looks_161 ?_
          refine J_sipush (pc := 164) hX (v := (694 : Int32)) (by decide) dX7_looks_164 ?_
          refine J_iald (pc := 167) hX (N := 784) (fs_7_0 t0 ht0) (by decide) dX7_looks_167 (fun h80 => ?_)
          refine J_join (fun (k82 : Int32 → Option (Int32 × jI)) => ∀ (v81 : Int32), J Y Z 7 Qf (k82 v81) 199 [(0, jr t0), (1, ji p0), (2, ji v8), (4, ji y18), (5, ji (0 : Int32))] [ji v81, ji (694 : Int32), jr (rfC t0 0)] 0 0 NC shC rfC I79 L0) ?_ (fun k82 hk82 => ?_)
          · intro v81
            try dsimp only
            refine J_iast (pc := 199) hX (N := 784) (fs_7_0 t0 ht0) (by decide) dX7_looks_199 (fun h83 I84 => ?_)
            refine J_aload_n (pc := 200) hX 0 rfl dX7_looks_200 ?_
            refine g_X7_7 (pc := 201) hX ht0 dX7_looks_201 ?_
            refine J_sipush (pc := 204) hX (v := (695 : Int32)) (by decide) dX7_looks_204 ?_
            refine J_iload_n (pc := 207) hX 1 rfl dX7_looks_207 ?_
            refine J_iast (pc := 208) hX (N := 784) (fs_7_0 t0 ht0) (by decide) dX7_looks_208 (fun h85 I86 => ?_)
            refine J_goto (pc := 209) hX (tgt := 342) (by decide) dX7_looks_209 ?_
            exact hk22 y18 (0 : Int32) I86
          refine J_join (fun (k87 : Option (Int32 × jI)) => J Y Z 7 Qf (k87) 198 [(0, jr t0), (1, ji p0), (2, ji v8), (4, ji y18), (5, ji (0 : Int32))] [ji (694 : Int32), jr (rfC t0 0)] 0 0 NC shC rfC I79 L0) ?_ (fun k87 hk87 => ?_)
          · refine J_iconst (pc := 198) hX (v := (1 : Int32)) (by decide) dX7_looks_198 ?_
            exact hk82 (1 : Int32)
          refine J_if_le (pc := 168) hX (tgt := 198) (by decide) dX7_looks_168 (fun h88 => ?_) (fun h88 => ?_)
          · refine J_sub [3, 4, 5, 1, 0] rfl ?_
            exact hk87
          · refine J_iload_n (pc := 171) hX 4 rfl dX7_looks_171 ?_
            refine J_aload_n (pc := 172) hX 3 rfl dX7_looks_172 ?_
            refine g_X7_7 (pc := 173) hX ht0 dX7_looks_173 ?_
            refine J_sipush (pc := 176) hX (v := (695 : Int32)) (by decide) dX7_looks_176 ?_
            refine J_iald (pc := 179) hX (N := 784) (fs_7_0 t0 ht0) (by decide) dX7_looks_179 (fun h89 => ?_)
            refine J_iconst (pc := 180) hX (v := (1 : Int32)) (by decide) dX7_looks_180 ?_
            refine J_iadd (pc := 181) hX dX7_looks_181 ?_
            refine J_icmp_ne (pc := 182) hX (tgt := 198) (by decide) dX7_looks_182 (fun h90 => ?_) (fun h90 => ?_)
            · refine J_sub [3, 4, 5, 1, 0] rfl ?_
              exact hk87
            · refine J_aload_n (pc := 185) hX 3 rfl dX7_looks_185 ?_
              refine g_X7_7 (pc := 186) hX ht0 dX7_looks_186 ?_
              refine J_sipush (pc := 189) hX (v := (694 : Int32)) (by decide) dX7_looks_189 ?_
              refine J_iald (pc := 192) hX (N := 784) (fs_7_0 t0 ht0) (by decide) dX7_looks_192 (fun h91 => ?_)
              refine J_iconst (pc := 193) hX (v := (1 : Int32)) (by decide) dX7_looks_193 ?_
              refine J_iadd (pc := 194) hX dX7_looks_194 ?_
              refine J_goto (pc := 195) hX (tgt := 199) (by decide) dX7_looks_195 ?_
              refine J_sub [3, 4, 5, 1, 0] rfl ?_
              exact hk82 ((I79 (rfC t0 0) ((694 : Int32)).toNatClampNeg) + (1 : Int32))
      try dsimp only at hj
      refine J_if_eqV (pc := 108) hX (tgt := 115) (by decide) dX7_looks_108 (fun h14 => ?_) (fun h14 => ?_)
      · refine J_iload_n (pc := 115) hX 3 rfl dX7_looks_115 ?_
        refine J_iconst (pc := 116) hX (v := (1 : Int32)) (by decide) dX7_looks_116 ?_
        refine J_iadd (pc := 117) hX dX7_looks_117 ?_
        exact hj _
      · refine J_iconst (pc := 111) hX (v := (0 : Int32)) (by decide) dX7_looks_111 ?_
        refine J_goto (pc := 112) hX (tgt := 118) (by decide) dX7_looks_112 ?_
        exact hj _
    try dsimp only at hj
    refine J_icmp_neV (pc := 97) hX (tgt := 104) (by decide) dX7_looks_97 (fun h12 => ?_) (fun h12 => ?_)
    · refine J_iconst (pc := 104) hX (v := (0 : Int32)) (by decide) dX7_looks_104 ?_
      exact hj _
    · refine J_iconst (pc := 100) hX (v := (1 : Int32)) (by decide) dX7_looks_100 ?_
      refine J_goto (pc := 101) hX (tgt := 105) (by decide) dX7_looks_101 ?_
      exact hj _
  have lhg94 : ∀ mq : Nat, ∀ (v92 : Int32) (I93 : jI), J Y Z 7 Qf (jfx (X7_looks_F2 t0 p0 k10) (fun _ _ => none) mq v92 I93) 32 [(0, jr t0), (1, ji p0), (2, ji v92)] [] 0 0 NC shC rfC I93 L0 := by
    intro mq
    refine jfx_J (fun (_ : Nat) (g94 : Int32 → jI → Option (Int32 × jI)) => ∀ (v92 : Int32) (I93 : jI), J Y Z 7 Qf (g94 v92 I93) 32 [(0, jr t0), (1, ji p0), (2, ji v92)] [] 0 0 NC shC rfC I93 L0) ?_ (fun _ g94 hg94 => ?_) mq
    · intro v92 I93
      exact J_none
    intro v92 I93
    unfold X7_looks_F2
    try dsimp only
    refine J_iload_n (pc := 32) hX 2 rfl dX7_looks_32 ?_
    refine J_aload_n (pc := 33) hX 0 rfl dX7_looks_33 ?_
    refine g_X7_7 (pc := 34) hX ht0 dX7_looks_34 ?_
    refine J_sipush (pc := 37) hX (v := (688 : Int32)) (by decide) dX7_looks_37 ?_
    refine J_iald (pc := 40) hX (N := 784) (fs_7_0 t0 ht0) (by decide) dX7_looks_40 (fun h95 => ?_)
    refine J_icmp_ge (pc := 41) hX (tgt := 88) (by decide) dX7_looks_41 (fun h96 => ?_) (fun h96 => ?_)
    · exact hk10 v92 I93
    · refine J_aload_n (pc := 44) hX 0 rfl dX7_looks_44 ?_
      refine J_iload_n (pc := 45) hX 2 rfl dX7_looks_45 ?_
      refine J_iload_n (pc := 46) hX 1 rfl dX7_looks_46 ?_
      refine J_call1 (fun y97 e98 => ?_)
      refine jrun_i (pc := 47) (jRunV hX s_X7_73 (ci := 7) (T := TX7) (N := 20) (As := [ji v92, ji p0]) (rest := []) rfl (by decide) (C_X7_found Y hz0 t0 ht0 v92 p0 I93 L0 y97 e98) ht0 rfl rfl ⟨by decide, by decide⟩ ⟨Nat.le_of_ble_eq_true rfl, Nat.le_of_ble_eq_true rfl⟩ (Nat.le_of_ble_eq_true rfl) dX7_looks_47) ?_
      refine J_if_ge (pc := 50) hX (tgt := 88) (by decide) dX7_looks_50 (fun h99 => ?_) (fun h99 => ?_)
      · exact hk10 v92 I93
      · refine J_aload_n (pc := 53) hX 0 rfl dX7_looks_53 ?_
        refine g_X7_7 (pc := 54) hX ht0 dX7_looks_54 ?_
        refine J_iload_n (pc := 57) hX 2 rfl dX7_looks_57 ?_
        refine J_iconst (pc := 58) hX (v := (5 : Int32)) (by decide) dX7_looks_58 ?_
        refine J_call1 (fun y100 e101 => ?_)
        refine jrun_i (pc := 59) (jRunS hX s_X7_51 (As := [ji v92, ji (5 : Int32)]) (rest := [jr (rfC t0 0)]) (C_X7_at Y hz0 v92 (5 : Int32) I93 L0 y100 e101) rfl rfl ⟨by decide, by decide⟩ ⟨Nat.le_of_ble_eq_true rfl, Nat.le_of_ble_eq_true rfl⟩ (Nat.le_of_ble_eq_true rfl) dX7_looks_59) ?_
        refine J_dup2 (pc := 62) hX rfl rfl dX7_looks_62 ?_
        refine J_iald (pc := 63) hX (N := 784) (fs_7_0 t0 ht0) (by decide) dX7_looks_63 (fun h102 => ?_)
        refine J_iconst (pc := 64) hX (v := (1 : Int32)) (by decide) dX7_looks_64 ?_
        refine J_iadd (pc := 65) hX dX7_looks_65 ?_
        refine J_iast (pc := 66) hX (N := 784) (fs_7_0 t0 ht0) (by decide) dX7_looks_66 (fun h103 I104 => ?_)
        refine J_aload_n (pc := 67) hX 0 rfl dX7_looks_67 ?_
        refine J_dup (pc := 68) hX rfl dX7_looks_68 ?_
        refine g_X7_94 (pc := 69) hX ht0 dX7_looks_69 ?_
        refine J_aload_n (pc := 72) hX 0 rfl dX7_looks_72 ?_
        refine J_iload_n (pc := 73) hX 2 rfl dX7_looks_73 ?_
        refine J_iconst (pc := 74) hX (v := (1 : Int32)) (by decide) dX7_looks_74 ?_
        refine J_call1 (fun y105 e106 => ?_)
        refine jrun_i (pc := 75) (jRunV hX s_X7_59 (ci := 7) (T := TX7) (N := 20) (As := [ji v92, ji (1 : Int32)]) (rest := [ji (I104 t0 5), jr t0]) rfl (by decide) (C_X7_of Y hz0 t0 ht0 v92 (1 : Int32) I104 L0 y105 e106) ht0 rfl rfl ⟨by decide, by decide⟩ ⟨Nat.le_of_ble_eq_true rfl, Nat.le_of_ble_eq_true rfl⟩ (Nat.le_of_ble_eq_true rfl) dX7_looks_75) ?_
        refine J_iadd (pc := 78) hX dX7_looks_78 ?_
        refine p_X7_94 (pc := 79) hX ht0 dX7_looks_79 (fun I107 => ?_)
        refine J_iinc (pc := 82) hX (v := (v92 + (1 : Int32))) (lo' := [(2, ji (v92 + (1 : Int32))), (0, jr t0), (1, ji p0)]) 2 rfl (by rfl) (by decide) rfl dX7_looks_82 ?_
        refine J_goto (pc := 85) hX (tgt := 32) (by decide) dX7_looks_85 ?_
        refine J_sub [1, 2, 0] rfl ?_
        exact hg94 (v92 + (1 : Int32)) I107
  refine J_sub [1, 2, 0] rfl ?_
  exact lhg94 1000 (0 : Int32) I7
theorem C_X7_looks (Y : jY) (hz0 : Y.zf = false) (t0 : Nat) (ht0 : shC t0 = 8) (p0 : Int32) (I0 : jI) (L0 : jL) (r : Int32) (I1 : jI) (h : X7_looks t0 p0 I0 = some (r, I1)) : jMet Y yX7_looks cX7_looks 7 (some .int) 46 2199 0 0 [jr t0, ji p0] NC shC rfC I0 L0 (some (ji r)) NC shC rfC I1 L0 :=
  jmet_of _ _ h (fun Z r => jQ Y Z 0 0 (some (ji r.1)) NC shC rfC r.2 L0) (fun _ => rfl) (by decide) (Nat.le_of_ble_eq_true rfl) (fun Z hX => W_X7_looks hz0 t0 ht0 p0 I0 L0 hX (fun _ => rfl))
def X7_isAnywhere_F1 (t0 : Nat) (p0 : Int32) (I0 : jI) (g3 : Int32 → Int32 → Option (Int32)) : Int32 → Int32 → Option (Int32) := fun (v1 : Int32) (v2 : Int32) =>
if jin (688 : Int32) 784 then (
if (I0 (rfC t0 0) ((688 : Int32)).toNatClampNeg) ≤ v2 then (
if v1 = 0 ∨ v1 = 1 then some v1 else none)
else (
jlet (fun (v6 : Int32) =>
g3 v6 (v2 + (1 : Int32))) (fun (k7 : Int32 → Option (Int32)) =>
jlet (
k7 (1 : Int32)) (fun (k8 : Option (Int32)) =>
if v1 = 0 then (
(X7_found t0 v2 p0 I0).bind (fun (y10 : Int32) =>
if y10 < 0 then (
k7 (0 : Int32))
else (
k8)))
else (
k8))))) else none
def X7_isAnywhere (t0 : Nat) (p0 : Int32) (I0 : jI) : Option (Int32) :=
jfx (X7_isAnywhere_F1 t0 p0 I0) (fun _ _ => none) 1000 (0 : Int32) (0 : Int32)
set_option maxRecDepth 20000 in
set_option maxHeartbeats 4000000 in
theorem W_X7_isAnywhere {Y : jY} {Z : jZ} {Qf : Int32 → State → Prop} (hz0 : Y.zf = false) (t0 : Nat) (ht0 : shC t0 = 8) (p0 : Int32) (I0 : jI) (L0 : jL) (hX : jOK Y Z RX7 cX7_isAnywhere 4 "isAnywhere" (some .boolean) 4 148 0 0) (hQ : ∀ r : Int32, Qf r = jQ Y Z 0 0 (some (ji r)) NC shC rfC I0 L0) : J Y Z 4 Qf (X7_isAnywhere t0 p0 I0) 0 [(0, jr t0), (1, ji p0)] [] 0 0 NC shC rfC I0 L0 := by
  unfold X7_isAnywhere
  refine J_iconst (pc := 0) hX (v := (0 : Int32)) (by decide) dX7_isAnywhere_0 ?_
  refine J_istore_n (pc := 1) hX (lo' := [(2, ji (0 : Int32)), (0, jr t0), (1, ji p0)]) (by decide) rfl dX7_isAnywhere_1 ?_
  refine J_iconst (pc := 2) hX (v := (0 : Int32)) (by decide) dX7_isAnywhere_2 ?_
  refine J_istore_n (pc := 3) hX (lo' := [(3, ji (0 : Int32)), (2, ji (0 : Int32)), (0, jr t0), (1, ji p0)]) (by decide) rfl dX7_isAnywhere_3 ?_
  have lhg3 : ∀ mq : Nat, ∀ (v1 : Int32) (v2 : Int32), J Y Z 4 Qf (jfx (X7_isAnywhere_F1 t0 p0 I0) (fun _ _ => none) mq v1 v2) 4 [(0, jr t0), (1, ji p0), (2, ji v1), (3, ji v2)] [] 0 0 NC shC rfC I0 L0 := by
    intro mq
    refine jfx_J (fun (_ : Nat) (g3 : Int32 → Int32 → Option (Int32)) => ∀ (v1 : Int32) (v2 : Int32), J Y Z 4 Qf (g3 v1 v2) 4 [(0, jr t0), (1, ji p0), (2, ji v1), (3, ji v2)] [] 0 0 NC shC rfC I0 L0) ?_ (fun _ g3 hg3 => ?_) mq
    · intro v1 v2
      exact J_none
    intro v1 v2
    unfold X7_isAnywhere_F1
    try dsimp only
    refine J_iload_n (pc := 4) hX 3 rfl dX7_isAnywhere_4 ?_
    refine J_aload_n (pc := 5) hX 0 rfl dX7_isAnywhere_5 ?_
    refine g_X7_7 (pc := 6) hX ht0 dX7_isAnywhere_6 ?_
    refine J_sipush (pc := 9) hX (v := (688 : Int32)) (by decide) dX7_isAnywhere_9 ?_
    refine J_iald (pc := 12) hX (N := 784) (fs_7_0 t0 ht0) (by decide) dX7_isAnywhere_12 (fun h4 => ?_)
    refine J_icmp_ge (pc := 13) hX (tgt := 41) (by decide) dX7_isAnywhere_13 (fun h5 => ?_) (fun h5 => ?_)
    · refine J_iload_n (pc := 41) hX 2 rfl dX7_isAnywhere_41 ?_
      exact J_zretG (pc := 42) hX (hQ _) dX7_isAnywhere_42
    · refine J_iload_n (pc := 16) hX 2 rfl dX7_isAnywhere_16 ?_
      refine J_join (fun (k7 : Int32 → Option (Int32)) => ∀ (v6 : Int32), J Y Z 4 Qf (k7 v6) 34 [(0, jr t0), (1, ji p0), (3, ji v2)] [ji v6] 0 0 NC shC rfC I0 L0) ?_ (fun k7 hk7 => ?_)
      · intro v6
        try dsimp only
        refine J_istore_n (pc := 34) hX (lo' := [(2, ji v6), (0, jr t0), (1, ji p0), (3, ji v2)]) (by decide) rfl dX7_isAnywhere_34 ?_
        refine J_iinc (pc := 35) hX (v := (v2 + (1 : Int32))) (lo' := [(3, ji (v2 + (1 : Int32))), (2, ji v6), (0, jr t0), (1, ji p0)]) 3 rfl (by rfl) (by decide) rfl dX7_isAnywhere_35 ?_
        refine J_goto (pc := 38) hX (tgt := 4) (by decide) dX7_isAnywhere_38 ?_
        refine J_sub [2, 3, 1, 0] rfl ?_
        exact hg3 v6 (v2 + (1 : Int32))
      refine J_join (fun (k8 : Option (Int32)) => J Y Z 4 Qf (k8) 29 [(0, jr t0), (1, ji p0), (3, ji v2)] [] 0 0 NC shC rfC I0 L0) ?_ (fun k8 hk8 => ?_)
      · refine J_iconst (pc := 29) hX (v := (1 : Int32)) (by decide) dX7_isAnywhere_29 ?_
        refine J_goto (pc := 30) hX (tgt := 34) (by decide) dX7_isAnywhere_30 ?_
        exact hk7 (1 : Int32)
      refine J_if_ne (pc := 17) hX (tgt := 29) (by decide) dX7_isAnywhere_17 (fun h9 => ?_) (fun h9 => ?_)
      · refine J_sub [0, 1, 3] rfl ?_
        exact hk8
      · refine J_aload_n (pc := 20) hX 0 rfl dX7_isAnywhere_20 ?_
        refine J_iload_n (pc := 21) hX 3 rfl dX7_isAnywhere_21 ?_
        refine J_iload_n (pc := 22) hX 1 rfl dX7_isAnywhere_22 ?_
        refine J_call1 (fun y10 e11 => ?_)
        refine jrun_i (pc := 23) (jRunV hX s_X7_73 (ci := 7) (T := TX7) (N := 20) (As := [ji v2, ji p0]) (rest := []) rfl (by decide) (C_X7_found Y hz0 t0 ht0 v2 p0 I0 L0 y10 e11) ht0 rfl rfl ⟨by decide, by decide⟩ ⟨Nat.le_of_ble_eq_true rfl, Nat.le_of_ble_eq_true rfl⟩ (Nat.le_of_ble_eq_true rfl) dX7_isAnywhere_23) ?_
        refine J_if_lt (pc := 26) hX (tgt := 33) (by decide) dX7_isAnywhere_26 (fun h12 => ?_) (fun h12 => ?_)
        · refine J_iconst (pc := 33) hX (v := (0 : Int32)) (by decide) dX7_isAnywhere_33 ?_
          refine J_sub [0, 1, 3] rfl ?_
          exact hk7 (0 : Int32)
        · refine J_sub [0, 1, 3] rfl ?_
          exact hk8
  refine J_sub [2, 3, 1, 0] rfl ?_
  exact lhg3 1000 (0 : Int32) (0 : Int32)
theorem C_X7_isAnywhere (Y : jY) (hz0 : Y.zf = false) (t0 : Nat) (ht0 : shC t0 = 8) (p0 : Int32) (I0 : jI) (L0 : jL) (r : Int32) (h : X7_isAnywhere t0 p0 I0 = some r) : jMet Y yX7_isAnywhere cX7_isAnywhere 4 (some .boolean) 4 148 0 0 [jr t0, ji p0] NC shC rfC I0 L0 (some (ji r)) NC shC rfC I0 L0 :=
  jmet_of _ _ h (fun Z r => jQ Y Z 0 0 (some (ji r)) NC shC rfC I0 L0) (fun _ => rfl) (by decide) (Nat.le_of_ble_eq_true rfl) (fun Z hX => W_X7_isAnywhere hz0 t0 ht0 p0 I0 L0 hX (fun _ => rfl))
def X7_follows_F1 (t0 : Nat) (v19 : Int32) (k24 : jI → Option (jI)) (g27 : Int32 → jI → Option (jI)) : Int32 → jI → Option (jI) := fun (v25 : Int32) (I26 : jI) =>
if (4 : Int32) ≤ v25 then (
k24 I26)
else (
if jin (((704 : Int32) + ((4 : Int32) * (v19 - (1 : Int32)))) + v25) 784 then (
if jin (((704 : Int32) + ((4 : Int32) * v19)) + v25) 784 then jlet (jup I26 (rfC t0 0) ((((704 : Int32) + ((4 : Int32) * v19)) + v25)).toNatClampNeg (I26 (rfC t0 0) ((((704 : Int32) + ((4 : Int32) * (v19 - (1 : Int32)))) + v25)).toNatClampNeg)) (fun (I31 : jI) =>
g27 (v25 + (1 : Int32)) I31) else none) else none)
def X7_follows_F2 (t0 : Nat) (k7 : jI → Option (jI)) (g21 : Int32 → jI → Option (jI)) : Int32 → jI → Option (jI) := fun (v19 : Int32) (I20 : jI) =>
if v19 ≤ 0 then (
k7 I20)
else (
jlet (fun (I23 : jI) =>
g21 (v19 + (-1 : Int32)) I23) (fun (k24 : jI → Option (jI)) =>
jfx (X7_follows_F1 t0 v19 k24) (fun _ _ => none) 1000 (0 : Int32) I20))
def X7_follows_F3 (t0 : Nat) (p0 : Int32) (y2 : Int32) (k5 : jI → Option (jI)) (g34 : Int32 → jI → Option (jI)) : Int32 → jI → Option (jI) := fun (v32 : Int32) (I33 : jI) =>
if (I33 t0 6) = 0 then (
if jin (694 : Int32) 784 then (
if (I33 (rfC t0 0) ((694 : Int32)).toNatClampNeg) ≤ (1 : Int32) then (
k5 I33)
else (
if y2 < 0 then (
k5 I33)
else (
if jin (691 : Int32) 784 then (
if (p0 + (I33 (rfC t0 0) ((691 : Int32)).toNatClampNeg)) < v32 then (
k5 I33)
else (
if (64 : Int32) ≤ v32 then (
k5 I33)
else (
(X7_isAnywhere t0 v32 I33).bind (fun (y42 : Int32) =>
jlet (fun (I44 : jI) =>
g34 (v32 + (1 : Int32)) I44) (fun (k45 : jI → Option (jI)) =>
if y42 = 0 then (
if jin v32 784 then (
(X7_places 10 t0 y2 v32 (I33 (rfC t0 0) (v32).toNatClampNeg) (0 : Int32) I33).bind (fun (I48 : jI) =>
if jin (696 : Int32) 784 then (
if jin (696 : Int32) 784 then jlet (jup I48 (rfC t0 0) ((696 : Int32)).toNatClampNeg ((I48 (rfC t0 0) ((696 : Int32)).toNatClampNeg) + (1 : Int32))) (fun (I52 : jI) =>
k45 I52) else none) else none)) else none)
else (
k45 I33)))))) else none))) else none)
else (
k5 I33)
def X7_follows (t0 : Nat) (p0 : Int32) (p1 : Int32) (I0 : jI) : Option (jI) :=
if jin (688 : Int32) 784 then (
jlet (((I0 (rfC t0 0) ((688 : Int32)).toNatClampNeg) - (1 : Int32))) (fun (y2 : Int32) =>
jlet ((p0 + (1 : Int32))) (fun (y3 : Int32) =>
jlet (fun (I4 : jI) =>
jlet (fun (I6 : jI) =>
if jin (704 : Int32) 784 then jlet (jup I6 (rfC t0 0) ((704 : Int32)).toNatClampNeg p0) (fun (I9 : jI) =>
if jin (705 : Int32) 784 then jlet (jup I9 (rfC t0 0) ((705 : Int32)).toNatClampNeg p1) (fun (I11 : jI) =>
if jin (706 : Int32) 784 then jlet (jup I11 (rfC t0 0) ((706 : Int32)).toNatClampNeg (I11 t0 5)) (fun (I13 : jI) =>
if jin (707 : Int32) 784 then jlet (jup I13 (rfC t0 0) ((707 : Int32)).toNatClampNeg (I13 t0 6)) (fun (I15 : jI) =>
if jin (702 : Int32) 784 then (
if jin (702 : Int32) 784 then jlet (jup I15 (rfC t0 0) ((702 : Int32)).toNatClampNeg (jmin (20 : Int32) ((I15 (rfC t0 0) ((702 : Int32)).toNatClampNeg) + (1 : Int32)))) (fun (I18 : jI) =>
some I18) else none) else none) else none) else none) else none) else none) (fun (k7 : jI → Option (jI)) =>
jfx (X7_follows_F2 t0 k7) (fun _ _ => none) 1000 (19 : Int32) I4)) (fun (k5 : jI → Option (jI)) =>
jfx (X7_follows_F3 t0 p0 y2 k5) (fun _ _ => none) 1000 y3 I0)))) else none
set_option maxRecDepth 20000 in
set_option maxHeartbeats 4000000 in
theorem W_X7_follows {Y : jY} {Z : jZ} {Qf : jI → State → Prop} (hz0 : Y.zf = false) (t0 : Nat) (ht0 : shC t0 = 8) (p0 : Int32) (p1 : Int32) (I0 : jI) (L0 : jL) (hX : jOK Y Z RX7 cX7_follows 6 "follows" none 46 2199 0 0) (hQ : ∀ r : jI, Qf r = jQ Y Z 0 0 none NC shC rfC r L0) : J Y Z 6 Qf (X7_follows t0 p0 p1 I0) 0 [(0, jr t0), (1, ji p0), (2, ji p1)] [] 0 0 NC shC rfC I0 L0 := by
  unfold X7_follows
  refine J_aload_n (pc := 0) hX 0 rfl dX7_follows_0 ?_
  refine g_X7_7 (pc := 1) hX ht0 dX7_follows_1 ?_
  refine J_sipush (pc := 4) hX (v := (688 : Int32)) (by decide) dX7_follows_4 ?_
  refine J_iald (pc := 7) hX (N := 784) (fs_7_0 t0 ht0) (by decide) dX7_follows_7 (fun h1 => ?_)
  refine J_iconst (pc := 8) hX (v := (1 : Int32)) (by decide) dX7_follows_8 ?_
  refine J_isub (pc := 9) hX dX7_follows_9 ?_
  refine J_leti (fun y2 => ?_)
  refine J_istore_n (pc := 10) hX (lo' := [(3, ji y2), (0, jr t0), (1, ji p0), (2, ji p1)]) (by decide) rfl dX7_follows_10 ?_
  refine J_iload_n (pc := 11) hX 2 rfl dX7_follows_11 ?_
  refine J_iconst (pc := 12) hX (v := (1 : Int32)) (by decide) dX7_follows_12 ?_
  refine J_iadd (pc := 13) hX dX7_follows_13 ?_
  refine J_leti (fun y3 => ?_)
  refine J_istore (pc := 14) hX (lo' := [(4, ji y3), (3, ji y2), (0, jr t0), (1, ji p0), (2, ji p1)]) (by decide) rfl dX7_follows_14 ?_
  refine J_join (fun (k5 : jI → Option (jI)) => ∀ (I4 : jI), J Y Z 6 Qf (k5 I4) 103 [(0, jr t0), (1, ji p0), (2, ji p1)] [] 0 0 NC shC rfC I4 L0) ?_ (fun k5 hk5 => ?_)
  · intro I4
    try dsimp only
    refine J_bipush (pc := 103) hX (v := (19 : Int32)) (by decide) dX7_follows_103 ?_
    refine J_istore (pc := 105) hX (lo' := [(4, ji (19 : Int32)), (0, jr t0), (1, ji p0), (2, ji p1)]) (by decide) rfl dX7_follows_105 ?_
    refine J_join (fun (k7 : jI → Option (jI)) => ∀ (I6 : jI), J Y Z 6 Qf (k7 I6) 167 [(0, jr t0), (1, ji p0), (2, ji p1)] [] 0 0 NC shC rfC I6 L0) ?_ (fun k7 hk7 => ?_)
    · intro I6
      try dsimp only
      refine J_aload_n (pc := 167) hX 0 rfl dX7_follows_167 ?_
      refine g_X7_7 (pc := 168) hX ht0 dX7_follows_168 ?_
      refine J_sipush (pc := 171) hX (v := (704 : Int32)) (by decide) dX7_follows_171 ?_
      refine J_iload_n (pc := 174) hX 1 rfl dX7_follows_174 ?_
      refine J_iast (pc := 175) hX (N := 784) (fs_7_0 t0 ht0) (by decide) dX7_follows_175 (fun h8 I9 => ?_)
      refine J_aload_n (pc := 176) hX 0 rfl dX7_follows_176 ?_
      refine g_X7_7 (pc := 177) hX ht0 dX7_follows_177 ?_
      refine J_sipush (pc := 180) hX (v := (705 : Int32)) (by decide) dX7_follows_180 ?_
      refine J_iload_n (pc := 183) hX 2 rfl dX7_follows_183 ?_
      refine J_iast (pc := 184) hX (N := 784) (fs_7_0 t0 ht0) (by decide) dX7_follows_184 (fun h10 I11 => ?_)
      refine J_aload_n (pc := 185) hX 0 rfl dX7_follows_185 ?_
      refine g_X7_7 (pc := 186) hX ht0 dX7_follows_186 ?_
      refine J_sipush (pc := 189) hX (v := (706 : Int32)) (by decide) dX7_follows_189 ?_
      refine J_aload_n (pc := 192) hX 0 rfl dX7_follows_192 ?_
      refine g_X7_94 (pc := 193) hX ht0 dX7_follows_193 ?_
      refine J_iast (pc := 196) hX (N := 784) (fs_7_0 t0 ht0) (by decide) dX7_follows_196 (fun h12 I13 => ?_)
      refine J_aload_n (pc := 197) hX 0 rfl dX7_follows_197 ?_
      refine g_X7_7 (pc := 198) hX ht0 dX7_follows_198 ?_
      refine J_sipush (pc := 201) hX (v := (707 : Int32)) (by decide) dX7_follows_201 ?_
      refine J_aload_n (pc := 204) hX 0 rfl dX7_follows_204 ?_
      refine g_X7_98 (pc := 205) hX ht0 dX7_follows_205 ?_
      refine J_iast (pc := 208) hX (N := 784) (fs_7_0 t0 ht0) (by decide) dX7_follows_208 (fun h14 I15 => ?_)
      refine J_aload_n (pc := 209) hX 0 rfl dX7_follows_209 ?_
      refine g_X7_7 (pc := 210) hX ht0 dX7_follows_210 ?_
      refine J_sipush (pc := 213) hX (v := (702 : Int32)) (by decide) dX7_follows_213 ?_
      refine J_bipush (pc := 216) hX (v := (20 : Int32)) (by decide) dX7_follows_216 ?_
      refine J_aload_n (pc := 218) hX 0 rfl dX7_follows_218 ?_
      refine g_X7_7 (pc := 219) hX ht0 dX7_follows_219 ?_
      refine J_sipush (pc := 222) hX (v := (702 : Int32)) (by decide) dX7_follows_222 ?_
      refine J_iald (pc := 225) hX (N := 784) (fs_7_0 t0 ht0) (by decide) dX7_follows_225 (fun h16 => ?_)
      refine J_iconst (pc := 226) hX (v := (1 : Int32)) (by decide) dX7_follows_226 ?_
      refine J_iadd (pc := 227) hX dX7_follows_227 ?_
      refine J_mmin (pc := 228) hX m_X7_105 ⟨by decide, by decide⟩ ⟨Nat.le_of_ble_eq_true rfl, Nat.le_of_ble_eq_true rfl⟩ (Nat.le_of_ble_eq_true rfl) dX7_follows_228 ?_
      refine J_iast (pc := 231) hX (N := 784) (fs_7_0 t0 ht0) (by decide) dX7_follows_231 (fun h17 I18 => ?_)
      exact J_vret (pc := 232) hX (hQ _) dX7_follows_232
    have lhg21 : ∀ mq : Nat, ∀ (v19 : Int32) (I20 : jI), J Y Z 6 Qf (jfx (X7_follows_F2 t0 k7) (fun _ _ => none) mq v19 I20) 107 [(0, jr t0), (1, ji p0), (2, ji p1), (4, ji v19)] [] 0 0 NC shC rfC I20 L0 := by
      intro mq
      refine jfx_J (fun (_ : Nat) (g21 : Int32 → jI → Option (jI)) => ∀ (v19 : Int32) (I20 : jI), J Y Z 6 Qf (g21 v19 I20) 107 [(0, jr t0), (1, ji p0), (2, ji p1), (4, ji v19)] [] 0 0 NC shC rfC I20 L0) ?_ (fun _ g21 hg21 => ?_) mq
      · intro v19 I20
        exact J_none
      intro v19 I20
      unfold X7_follows_F2
      try dsimp only
      refine J_iload (pc := 107) hX 3 rfl dX7_follows_107 ?_
      refine J_if_le (pc := 109) hX (tgt := 167) (by decide) dX7_follows_109 (fun h22 => ?_) (fun h22 => ?_)
      · refine J_sub [0, 1, 2] rfl ?_
        exact hk7 I20
      · refine J_iconst (pc := 112) hX (v := (0 : Int32)) (by decide) dX7_follows_112 ?_
        refine J_istore (pc := 113) hX (lo' := [(5, ji (0 : Int32)), (0, jr t0), (1, ji p0), (2, ji p1), (4, ji v19)]) (by decide) rfl dX7_follows_113 ?_
        refine J_join (fun (k24 : jI → Option (jI)) => ∀ (I23 : jI), J Y Z 6 Qf (k24 I23) 161 [(0, jr t0), (1, ji p0), (2, ji p1), (4, ji v19)] [] 0 0 NC shC rfC I23 L0) ?_ (fun k24 hk24 => ?_)
        · intro I23
          try dsimp only
          refine J_iinc (pc := 161) hX (v := (v19 + (-1 : Int32))) (lo' := [(4, ji (v19 + (-1 : Int32))), (0, jr t0), (1, ji p0), (2, ji p1)]) 3 rfl (by rfl) (by decide) rfl dX7_follows_161 ?_
          refine J_goto (pc := 164) hX (tgt := 107) (by decide) dX7_follows_164 ?_
          refine J_sub [1, 2, 3, 0] rfl ?_
          exact hg21 (v19 + (-1 : Int32)) I23
        have lhg27 : ∀ mq : Nat, ∀ (v25 : Int32) (I26 : jI), J Y Z 6 Qf (jfx (X7_follows_F1 t0 v19 k24) (fun _ _ => none) mq v25 I26) 115 [(0, jr t0), (1, ji p0), (2, ji p1), (4, ji v19), (5, ji v25)] [] 0 0 NC shC rfC I26 L0 := by
          intro mq
          refine jfx_J (fun (_ : Nat) (g27 : Int32 → jI → Option (jI)) => ∀ (v25 : Int32) (I26 : jI), J Y Z 6 Qf (g27 v25 I26) 115 [(0, jr t0), (1, ji p0), (2, ji p1), (4, ji v19), (5, ji v25)] [] 0 0 NC shC rfC I26 L0) ?_ (fun _ g27 hg27 => ?_) mq
          · intro v25 I26
            exact J_none
          intro v25 I26
          unfold X7_follows_F1
          try dsimp only
          refine J_iload (pc := 115) hX 4 rfl dX7_follows_115 ?_
          refine J_iconst (pc := 117) hX (v := (4 : Int32)) (by decide) dX7_follows_117 ?_
          refine J_icmp_ge (pc := 118) hX (tgt := 161) (by decide) dX7_follows_118 (fun h28 => ?_) (fun h28 => ?_)
          · refine J_sub [0, 1, 2, 3] rfl ?_
            exact hk24 I26
          · refine J_aload_n (pc := 121) hX 0 rfl dX7_follows_121 ?_
            refine g_X7_7 (pc := 122) hX ht0 dX7_follows_122 ?_
            refine J_sipush (pc := 125) hX (v := (704 : Int32)) (by decide) dX7_follows_125 ?_
            refine J_iconst (pc := 128) hX (v := (4 : Int32)) (by decide) dX7_follows_128 ?_
            refine J_iload (pc := 129) hX 3 rfl dX7_follows_129 ?_
            refine J_imul (pc := 131) hX dX7_follows_131 ?_
            refine J_iadd (pc := 132) hX dX7_follows_132 ?_
            refine J_iload (pc := 133) hX 4 rfl dX7_follows_133 ?_
            refine J_iadd (pc := 135) hX dX7_follows_135 ?_
            refine J_aload_n (pc := 136) hX 0 rfl dX7_follows_136 ?_
            refine g_X7_7 (pc := 137) hX ht0 dX7_follows_137 ?_
            refine J_sipush (pc := 140) hX (v := (704 : Int32)) (by decide) dX7_follows_140 ?_
            refine J_iconst (pc := 143) hX (v := (4 : Int32)) (by decide) dX7_follows_143 ?_
            refine J_iload (pc := 144) hX 3 rfl dX7_follows_144 ?_
            refine J_iconst (pc := 146) hX (v := (1 : Int32)) (by decide) dX7_follows_146 ?_
            refine J_isub (pc := 147) hX dX7_follows_147 ?_
            refine J_imul (pc := 148) hX dX7_follows_148 ?_
            refine J_iadd (pc := 149) hX dX7_follows_149 ?_
            refine J_iload (pc := 150) hX 4 rfl dX7_follows_150 ?_
            refine J_iadd (pc := 152) hX dX7_follows_152 ?_
            refine J_iald (pc := 153) hX (N := 784) (fs_7_0 t0 ht0) (by decide) dX7_follows_153 (fun h29 => ?_)
            refine J_iast (pc := 154) hX (N := 784) (fs_7_0 t0 ht0) (by decide) dX7_follows_154 (fun h30 I31 => ?_)
            refine J_iinc (pc := 155) hX (v := (v25 + (1 : Int32))) (lo' := [(5, ji (v25 + (1 : Int32))), (0, jr t0), (1, ji p0), (2, ji p1), (4, ji v19)]) 4 rfl (by rfl) (by decide) rfl dX7_follows_155 ?_
            refine J_goto (pc := 158) hX (tgt := 115) (by decide) dX7_follows_158 ?_
            refine J_sub [1, 2, 3, 4, 0] rfl ?_
            exact hg27 (v25 + (1 : Int32)) I31
        refine J_sub [1, 2, 3, 4, 0] rfl ?_
        exact lhg27 1000 (0 : Int32) I20
    refine J_sub [1, 2, 3, 0] rfl ?_
    exact lhg21 1000 (19 : Int32) I4
  have lhg34 : ∀ mq : Nat, ∀ (v32 : Int32) (I33 : jI), J Y Z 6 Qf (jfx (X7_follows_F3 t0 p0 y2 k5) (fun _ _ => none) mq v32 I33) 16 [(0, jr t0), (1, ji p0), (2, ji p1), (3, ji y2), (4, ji v32)] [] 0 0 NC shC rfC I33 L0 := by
    intro mq
    refine jfx_J (fun (_ : Nat) (g34 : Int32 → jI → Option (jI)) => ∀ (v32 : Int32) (I33 : jI), J Y Z 6 Qf (g34 v32 I33) 16 [(0, jr t0), (1, ji p0), (2, ji p1), (3, ji y2), (4, ji v32)] [] 0 0 NC shC rfC I33 L0) ?_ (fun _ g34 hg34 => ?_) mq
    · intro v32 I33
      exact J_none
    intro v32 I33
    unfold X7_follows_F3
    try dsimp only
    refine J_aload_n (pc := 16) hX 0 rfl dX7_follows_16 ?_
    refine g_X7_98 (pc := 17) hX ht0 dX7_follows_17 ?_
    refine J_if_ne (pc := 20) hX (tgt := 103) (by decide) dX7_follows_20 (fun h35 => ?_) (fun h35 => ?_)
    · refine J_sub [0, 1, 2] rfl ?_
      exact hk5 I33
    · refine J_aload_n (pc := 23) hX 0 rfl dX7_follows_23 ?_
      refine g_X7_7 (pc := 24) hX ht0 dX7_follows_24 ?_
      refine J_sipush (pc := 27) hX (v := (694 : Int32)) (by decide) dX7_follows_27 ?_
      refine J_iald (pc := 30) hX (N := 784) (fs_7_0 t0 ht0) (by decide) dX7_follows_30 (fun h36 => ?_)
      refine J_iconst (pc := 31) hX (v := (1 : Int32)) (by decide) dX7_follows_31 ?_
      refine J_icmp_le (pc := 32) hX (tgt := 103) (by decide) dX7_follows_32 (fun h37 => ?_) (fun h37 => ?_)
      · refine J_sub [0, 1, 2] rfl ?_
        exact hk5 I33
      · refine J_iload_n (pc := 35) hX 3 rfl dX7_follows_35 ?_
        refine J_if_lt (pc := 36) hX (tgt := 103) (by decide) dX7_follows_36 (fun h38 => ?_) (fun h38 => ?_)
        · refine J_sub [0, 1, 2] rfl ?_
          exact hk5 I33
        · refine J_iload (pc := 39) hX 4 rfl dX7_follows_39 ?_
          refine J_iload_n (pc := 41) hX 1 rfl dX7_follows_41 ?_
          refine J_aload_n (pc := 42) hX 0 rfl dX7_follows_42 ?_
          refine g_X7_7 (pc := 43) hX ht0 dX7_follows_43 ?_
          refine J_sipush (pc := 46) hX (v := (691 : Int32)) (by decide) dX7_follows_46 ?_
          refine J_iald (pc := 49) hX (N := 784) (fs_7_0 t0 ht0) (by decide) dX7_follows_49 (fun h39 => ?_)
          refine J_iadd (pc := 50) hX dX7_follows_50 ?_
          refine J_icmp_gt (pc := 51) hX (tgt := 103) (by decide) dX7_follows_51 (fun h40 => ?_) (fun h40 => ?_)
          · refine J_sub [0, 1, 2] rfl ?_
            exact hk5 I33
          · refine J_iload (pc := 54) hX 4 rfl dX7_follows_54 ?_
            refine J_bipush (pc := 56) hX (v := (64 : Int32)) (by decide) dX7_follows_56 ?_
            refine J_icmp_ge (pc := 58) hX (tgt := 103) (by decide) dX7_follows_58 (fun h41 => ?_) (fun h41 => ?_)
            · refine J_sub [0, 1, 2] rfl ?_
              exact hk5 I33
            · refine J_aload_n (pc := 61) hX 0 rfl dX7_follows_61 ?_
              refine J_iload (pc := 62) hX 4 rfl dX7_follows_62 ?_
              refine J_call1 (fun y42 e43 => ?_)
              refine jrun_i (pc := 64) (jRunV hX s_X7_101 (ci := 7) (T := TX7) (N := 20) (As := [ji v32]) (rest := []) rfl (by decide) (C_X7_isAnywhere Y hz0 t0 ht0 v32 I33 L0 y42 e43) ht0 rfl rfl ⟨by decide, by decide⟩ ⟨Nat.le_of_ble_eq_true rfl, Nat.le_of_ble_eq_true rfl⟩ (Nat.le_of_ble_eq_true rfl) dX7_follows_64) ?_
              refine J_join (fun (k45 : jI → Option (jI)) => ∀ (I44 : jI), J Y Z 6 Qf (k45 I44) 97 [(0, jr t0), (1, ji p0), (2, ji p1), (3, ji y2), (4, ji v32)] [] 0 0 NC shC rfC I44 L0) ?_ (fun k45 hk45 => ?_)
              · intro I44
                try dsimp only
                refine J_iinc (pc := 97) hX (v := (v32 + (1 : Int32))) (lo' := [(4, ji (v32 + (1 : Int32))), (0, jr t0), (1, ji p0), (2, ji p1), (3, ji y2)]) 4 rfl (by rfl) (by decide) rfl dX7_follows_97 ?_
                refine J_goto (pc := 100) hX (tgt := 16) (by decide) dX7_follows_100 ?_
                refine J_sub [1, 2, 3, 4, 0] rfl ?_
                exact hg34 (v32 + (1 : Int32)) I44
              refine J_if_ne (pc := 67) hX (tgt := 97) (by decide) dX7_follows_67 (fun h46 => ?_) (fun h46 => ?_)
              · exact hk45 I33
              · refine J_aload_n (pc := 70) hX 0 rfl dX7_follows_70 ?_
                refine J_iload_n (pc := 71) hX 3 rfl dX7_follows_71 ?_
                refine J_iload (pc := 72) hX 4 rfl dX7_follows_72 ?_
                refine J_aload_n (pc := 74) hX 0 rfl dX7_follows_74 ?_
                refine g_X7_7 (pc := 75) hX ht0 dX7_follows_75 ?_
                refine J_iload (pc := 78) hX 4 rfl dX7_follows_78 ?_
                refine J_iald (pc := 80) hX (N := 784) (fs_7_0 t0 ht0) (by decide) dX7_follows_80 (fun h47 => ?_)
                refine J_iconst (pc := 81) hX (v := (0 : Int32)) (by decide) dX7_follows_81 ?_
                refine J_call1 (fun I48 e49 => ?_)
                refine jrun_v (pc := 82) (jRunV hX s_X7_80 (ci := 7) (T := TX7) (N := 20) (As := [ji y2, ji v32, ji (I33 (rfC t0 0) (v32).toNatClampNeg), ji (0 : Int32)]) (rest := []) rfl (by decide) (C_X7_places Y hz0 10 t0 ht0 y2 v32 (I33 (rfC t0 0) (v32).toNatClampNeg) (0 : Int32) I33 L0 I48 e49) ht0 rfl rfl ⟨by decide, by decide⟩ ⟨Nat.le_of_ble_eq_true rfl, Nat.le_of_ble_eq_true rfl⟩ (Nat.le_of_ble_eq_true rfl) dX7_follows_82) ?_
                refine J_aload_n (pc := 85) hX 0 rfl dX7_follows_85 ?_
                refine g_X7_7 (pc := 86) hX ht0 dX7_follows_86 ?_
                refine J_sipush (pc := 89) hX (v := (696 : Int32)) (by decide) dX7_follows_89 ?_
                refine J_dup2 (pc := 92) hX rfl rfl dX7_follows_92 ?_
                refine J_iald (pc := 93) hX (N := 784) (fs_7_0 t0 ht0) (by decide) dX7_follows_93 (fun h50 => ?_)
                refine J_iconst (pc := 94) hX (v := (1 : Int32)) (by decide) dX7_follows_94 ?_
                refine J_iadd (pc := 95) hX dX7_follows_95 ?_
                refine J_iast (pc := 96) hX (N := 784) (fs_7_0 t0 ht0) (by decide) dX7_follows_96 (fun h51 I52 => ?_)
                exact hk45 I52
  refine J_sub [2, 3, 4, 1, 0] rfl ?_
  exact lhg34 1000 y3 I0
theorem C_X7_follows (Y : jY) (hz0 : Y.zf = false) (t0 : Nat) (ht0 : shC t0 = 8) (p0 : Int32) (p1 : Int32) (I0 : jI) (L0 : jL) (I1 : jI) (h : X7_follows t0 p0 p1 I0 = some I1) : jMet Y yX7_follows cX7_follows 6 none 46 2199 0 0 [jr t0, ji p0, ji p1] NC shC rfC I0 L0 none NC shC rfC I1 L0 :=
  jmet_of _ _ h (fun Z r => jQ Y Z 0 0 none NC shC rfC r L0) (fun _ => rfl) (by decide) (Nat.le_of_ble_eq_true rfl) (fun Z hX => W_X7_follows hz0 t0 ht0 p0 p1 I0 L0 hX (fun _ => rfl))
def X7_reads (t0 : Nat) (p0 : Int32) (I0 : jI) : Option (Int32 × jI) :=
jb2 (X7_looks t0 p0 I0) (fun (y1 : Int32) (I2 : jI) =>
(X7_follows t0 p0 (0 : Int32) I2).bind (fun (I4 : jI) =>
some (y1, I4)))
set_option maxRecDepth 20000 in
set_option maxHeartbeats 4000000 in
theorem W_X7_reads {Y : jY} {Z : jZ} {Qf : Int32 × jI → State → Prop} (hz0 : Y.zf = false) (t0 : Nat) (ht0 : shC t0 = 8) (p0 : Int32) (I0 : jI) (L0 : jL) (hX : jOK Y Z RX7 cX7_reads 3 "reads" (some .int) 47 2225 0 0) (hQ : ∀ r : Int32 × jI, Qf r = jQ Y Z 0 0 (some (ji r.1)) NC shC rfC r.2 L0) : J Y Z 3 Qf (X7_reads t0 p0 I0) 0 [(0, jr t0), (1, ji p0)] [] 0 0 NC shC rfC I0 L0 := by
  unfold X7_reads
  refine J_aload_n (pc := 0) hX 0 rfl dX7_reads_0 ?_
  refine J_iload_n (pc := 1) hX 1 rfl dX7_reads_1 ?_
  refine J_call2 (fun y1 I2 e3 => ?_)
  refine jrun_i (pc := 2) (jRunV hX s_X7_110 (ci := 7) (T := TX7) (N := 20) (As := [ji p0]) (rest := []) rfl (by decide) (C_X7_looks Y hz0 t0 ht0 p0 I0 L0 y1 I2 e3) ht0 rfl rfl ⟨by decide, by decide⟩ ⟨Nat.le_of_ble_eq_true rfl, Nat.le_of_ble_eq_true rfl⟩ (Nat.le_of_ble_eq_true rfl) dX7_reads_2) ?_
  refine J_istore_n (pc := 5) hX (lo' := [(2, ji y1), (0, jr t0), (1, ji p0)]) (by decide) rfl dX7_reads_5 ?_
  refine J_aload_n (pc := 6) hX 1 rfl dX7_reads_6 ?_
  refine J_iload_n (pc := 7) hX 2 rfl dX7_reads_7 ?_
  refine J_iconst (pc := 8) hX (v := (0 : Int32)) (by decide) dX7_reads_8 ?_
  refine J_call1 (fun I4 e5 => ?_)
  refine jrun_v (pc := 9) (jRunV hX s_X7_113 (ci := 7) (T := TX7) (N := 20) (As := [ji p0, ji (0 : Int32)]) (rest := []) rfl (by decide) (C_X7_follows Y hz0 t0 ht0 p0 (0 : Int32) I2 L0 I4 e5) ht0 rfl rfl ⟨by decide, by decide⟩ ⟨Nat.le_of_ble_eq_true rfl, Nat.le_of_ble_eq_true rfl⟩ (Nat.le_of_ble_eq_true rfl) dX7_reads_9) ?_
  refine J_iload_n (pc := 12) hX 0 rfl dX7_reads_12 ?_
  exact J_iret (pc := 13) hX (hQ _) dX7_reads_13
theorem C_X7_reads (Y : jY) (hz0 : Y.zf = false) (t0 : Nat) (ht0 : shC t0 = 8) (p0 : Int32) (I0 : jI) (L0 : jL) (r : Int32) (I1 : jI) (h : X7_reads t0 p0 I0 = some (r, I1)) : jMet Y yX7_reads cX7_reads 3 (some .int) 47 2225 0 0 [jr t0, ji p0] NC shC rfC I0 L0 (some (ji r)) NC shC rfC I1 L0 :=
  jmet_of _ _ h (fun Z r => jQ Y Z 0 0 (some (ji r.1)) NC shC rfC r.2 L0) (fun _ => rfl) (by decide) (Nat.le_of_ble_eq_true rfl) (fun Z hX => W_X7_reads hz0 t0 ht0 p0 I0 L0 hX (fun _ => rfl))
