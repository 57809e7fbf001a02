def X7_flushedAll_F1 (t0 : Nat) (I0 : jI) (g3 : Int32 → Int32 → Option (Int32)) : Int32 → Int32 → Option (Int32) := fun (v1 : Int32) (v2 : Int32) =>
if jin (688 : Int32) 784 then (
if (I0 (rfC t0 0) ((688 : Int32)).toNatClampNeg) ≤ v2 then (
some v1)
else (
(X7_of t0 v2 (7 : Int32) I0).bind (fun (y6 : Int32) =>
jlet ((v1 + y6)) (fun (y8 : Int32) =>
g3 y8 (v2 + (1 : Int32)))))) else none
def X7_flushedAll (t0 : Nat) (I0 : jI) : Option (Int32) :=
jfx (X7_flushedAll_F1 t0 I0) (fun _ _ => none) 1000 (0 : Int32) (0 : Int32)
set_option maxRecDepth 20000 in
set_option maxHeartbeats 4000000 in
theorem W_X7_flushedAll {Y : jY} {Z : jZ} {Qf : Int32 → State → Prop} (hz0 : Y.zf = false) (t0 : Nat) (ht0 : shC t0 = 8) (I0 : jI) (L0 : jL) (hX : jOK Y Z RX7 cX7_flushedAll 3 "flushedAll" (some .int) 3 123 0 0) (hQ : ∀ r : Int32, Qf r = jQ Y Z 0 0 (some (ji r)) NC shC rfC I0 L0) : J Y Z 3 Qf (X7_flushedAll t0 I0) 0 [(0, jr t0)] [] 0 0 NC shC rfC I0 L0 := by
  unfold X7_flushedAll
  refine J_iconst (pc := 0) hX (v := (0 : Int32)) (by decide) dX7_flushedAll_0 ?_
  refine J_istore_n (pc := 1) hX (lo' := [(1, ji (0 : Int32)), (0, jr t0)]) (by decide) rfl dX7_flushedAll_1 ?_
  refine J_iconst (pc := 2) hX (v := (0 : Int32)) (by decide) dX7_flushedAll_2 ?_
  refine J_istore_n (pc := 3) hX (lo' := [(2, ji (0 : Int32)), (1, ji (0 : Int32)), (0, jr t0)]) (by decide) rfl dX7_flushedAll_3 ?_
  have lhg3 : ∀ mq : Nat, ∀ (v1 : Int32) (v2 : Int32), J Y Z 3 Qf (jfx (X7_flushedAll_F1 t0 I0) (fun _ _ => none) mq v1 v2) 4 [(0, jr t0), (1, ji v1), (2, ji v2)] [] 0 0 NC shC rfC I0 L0 := by
    intro mq
    refine jfx_J (fun (_ : Nat) (g3 : Int32 → Int32 → Option (Int32)) => ∀ (v1 : Int32) (v2 : Int32), J Y Z 3 Qf (g3 v1 v2) 4 [(0, jr t0), (1, ji v1), (2, ji v2)] [] 0 0 NC shC rfC I0 L0) ?_ (fun _ g3 hg3 => ?_) mq
    · intro v1 v2
      exact J_none
    intro v1 v2
    unfold X7_flushedAll_F1
    try dsimp only
    refine J_iload_n (pc := 4) hX 2 rfl dX7_flushedAll_4 ?_
    refine J_aload_n (pc := 5) hX 0 rfl dX7_flushedAll_5 ?_
    refine g_X7_7 (pc := 6) hX ht0 dX7_flushedAll_6 ?_
    refine J_sipush (pc := 9) hX (v := (688 : Int32)) (by decide) dX7_flushedAll_9 ?_
    refine J_iald (pc := 12) hX (N := 784) (fs_7_0 t0 ht0) (by decide) dX7_flushedAll_12 (fun h4 => ?_)
    refine J_icmp_ge (pc := 13) hX (tgt := 32) (by decide) dX7_flushedAll_13 (fun h5 => ?_) (fun h5 => ?_)
    · refine J_iload_n (pc := 32) hX 1 rfl dX7_flushedAll_32 ?_
      exact J_iret (pc := 33) hX (hQ _) dX7_flushedAll_33
    · refine J_iload_n (pc := 16) hX 1 rfl dX7_flushedAll_16 ?_
      refine J_aload_n (pc := 17) hX 0 rfl dX7_flushedAll_17 ?_
      refine J_iload_n (pc := 18) hX 2 rfl dX7_flushedAll_18 ?_
      refine J_bipush (pc := 19) hX (v := (7 : Int32)) (by decide) dX7_flushedAll_19 ?_
      refine J_call1 (fun y6 e7 => ?_)
      refine jrun_i (pc := 21) (jRunV hX s_X7_59 (ci := 7) (T := TX7) (N := 20) (As := [ji v2, ji (7 : Int32)]) (rest := [ji v1]) rfl (by decide) (C_X7_of Y hz0 t0 ht0 v2 (7 : Int32) I0 L0 y6 e7) ht0 rfl rfl ⟨by decide, by decide⟩ ⟨Nat.le_of_ble_eq_true rfl, Nat.le_of_ble_eq_true rfl⟩ (Nat.le_of_ble_eq_true rfl) dX7_flushedAll_21) ?_
      refine J_iadd (pc := 24) hX dX7_flushedAll_24 ?_
      refine J_leti (fun y8 => ?_)
      refine J_istore_n (pc := 25) hX (lo' := [(1, ji y8), (0, jr t0), (2, ji v2)]) (by decide) rfl dX7_flushedAll_25 ?_
      refine J_iinc (pc := 26) hX (v := (v2 + (1 : Int32))) (lo' := [(2, ji (v2 + (1 : Int32))), (1, ji y8), (0, jr t0)]) 2 rfl (by rfl) (by decide) rfl dX7_flushedAll_26 ?_
      refine J_goto (pc := 29) hX (tgt := 4) (by decide) dX7_flushedAll_29 ?_
      refine J_sub [2, 1, 0] rfl ?_
      exact hg3 y8 (v2 + (1 : Int32))
  refine J_sub [2, 1, 0] rfl ?_
  exact lhg3 1000 (0 : Int32) (0 : Int32)
theorem C_X7_flushedAll (Y : jY) (hz0 : Y.zf = false) (t0 : Nat) (ht0 : shC t0 = 8) (I0 : jI) (L0 : jL) (r : Int32) (h : X7_flushedAll t0 I0 = some r) : jMet Y yX7_flushedAll cX7_flushedAll 3 (some .int) 3 123 0 0 [jr t0] NC shC rfC I0 L0 (some (ji r)) NC shC rfC I0 L0 :=
  jmet_of _ _ h (fun Z r => jQ Y Z 0 0 (some (ji r)) NC shC rfC I0 L0) (fun _ => rfl) (by decide) (Nat.le_of_ble_eq_true rfl) (fun Z hX => W_X7_flushedAll hz0 t0 ht0 I0 L0 hX (fun _ => rfl))
def X7_would_F1 (t0 : Nat) (I19 : jI) (k22 : Int32 → Option (Int32 × jI)) (g35 : Int32 → Int32 → Option (Int32 × jI)) : Int32 → Int32 → Option (Int32 × jI) := fun (v33 : Int32) (v34 : Int32) =>
if (64 : Int32) ≤ v34 then (
k22 v33)
else (
if jin v34 64 then (
jlet (fun (v38 : Int32) =>
jlet ((v33 + v38)) (fun (y40 : Int32) =>
g35 y40 (v34 + (1 : Int32)))) (fun (k39 : Int32 → Option (Int32 × jI)) =>
jlet (
k39 (0 : Int32)) (fun (k41 : Option (Int32 × jI)) =>
if (I19 (rfC t0 15) (v34).toNatClampNeg) = 0 then (
k41)
else (
(X7_isAnywhere t0 v34 I19).bind (fun (y43 : Int32) =>
if y43 = 0 then (
k39 (1 : Int32))
else (
k41)))))) else none)
def X7_would_F2 (t0 : Nat) (k13 : jI → Option (Int32 × jI)) (g48 : Int32 → jI → Option (Int32 × jI)) : Int32 → jI → Option (Int32 × jI) := fun (v46 : Int32) (I47 : jI) =>
if (64 : Int32) ≤ v46 then (
k13 I47)
else (
(X7_isAnywhere t0 v46 I47).bind (fun (y50 : Int32) =>
if jin v46 64 then jlet (jup I47 (rfC t0 15) (v46).toNatClampNeg (jnz y50)) (fun (I53 : jI) =>
g48 (v46 + (1 : Int32)) I53) else none))
def X7_would (t0 : Nat) (p0 : Int32) (p1 : Int32) (I0 : jI) : Option (Int32 × jI) :=
(X7_isPage ((p0).toInt64)).bind (fun (y1 : Int32) =>
if y1 = 0 then (
jb2 (X7_refuses t0 (-52 : Int32) I0) (fun (y4 : Int32) (I5 : jI) =>
some (y4, I5)))
else (
(X7_isIn ((p1).toInt64) (0 : Int64) (3 : Int64)).bind (fun (y7 : Int32) =>
if y7 = 0 then (
jb2 (X7_refuses t0 (-52 : Int32) I0) (fun (y54 : Int32) (I55 : jI) =>
some (y54, I55)))
else (
(X7_pours (rfC t0 0) (rfC t0 2) I0).bind (fun (I10 : jI) =>
jlet (fun (I12 : jI) =>
(X7_flushedAll t0 I12).bind (fun (y14 : Int32) =>
if jin (696 : Int32) 784 then (
jlet ((I12 (rfC t0 0) ((696 : Int32)).toNatClampNeg)) (fun (y17 : Int32) =>
jb2 (X7_reads t0 p0 I12) (fun (y18 : Int32) (I19 : jI) =>
jlet (fun (v21 : Int32) =>
jlet (fun (v23 : Int32) =>
(X7_pours (rfC t0 2) (rfC t0 0) I19).bind (fun (I25 : jI) =>
some (v23, I25))) (fun (k24 : Int32 → Option (Int32 × jI)) =>
if p1 = 0 then (
k24 (I19 t0 5))
else (
if p1 = (1 : Int32) then (
(X7_flushedAll t0 I19).bind (fun (y31 : Int32) =>
k24 (y31 - y14)))
else (
if p1 = (2 : Int32) then (
if jin (696 : Int32) 784 then (
k24 ((I19 (rfC t0 0) ((696 : Int32)).toNatClampNeg) - y17)) else none)
else (
k24 v21))))) (fun (k22 : Int32 → Option (Int32 × jI)) =>
jfx (X7_would_F1 t0 I19 k22) (fun _ _ => none) 1000 (0 : Int32) (0 : Int32))))) else none)) (fun (k13 : jI → Option (Int32 × jI)) =>
jfx (X7_would_F2 t0 k13) (fun _ _ => none) 1000 (0 : Int32) I10))))))
set_option maxRecDepth 20000 in
set_option maxHeartbeats 4000000 in
theorem W_X7_would {Y : jY} {Z : jZ} {Qf : Int32 × jI → State → Prop} (hz0 : Y.zf = false) (t0 : Nat) (ht0 : shC t0 = 8) (p0 : Int32) (p1 : Int32) (I0 : jI) (L0 : jL) (hX : jOK Y Z RX7 cX7_would 7 "would" (some .int) 48 2247 0 0) (hQ : ∀ r : Int32 × jI, Qf r = jQ Y Z 0 0 (some (ji r.1)) NC shC rfC r.2 L0) : J Y Z 7 Qf (X7_would t0 p0 p1 I0) 0 [(0, jr t0), (1, ji p0), (2, ji p1)] [] 0 0 NC shC rfC I0 L0 := by
  unfold X7_would
  refine J_iload_n (pc := 0) hX 1 rfl dX7_would_0 ?_
  refine J_i2l (pc := 1) hX dX7_would_1 ?_
  refine J_call1 (fun y1 e2 => ?_)
  refine jrun_i (pc := 2) (jRunS hX s_X7_137 (As := [jl ((p0).toInt64)]) (rest := []) (C_X7_isPage Y hz0 ((p0).toInt64) I0 L0 y1 e2) rfl rfl ⟨by decide, by decide⟩ ⟨Nat.le_of_ble_eq_true rfl, Nat.le_of_ble_eq_true rfl⟩ (Nat.le_of_ble_eq_true rfl) dX7_would_2) ?_
  refine J_if_eq (pc := 5) hX (tgt := 20) (by decide) dX7_would_5 (fun h3 => ?_) (fun h3 => ?_)
  · refine J_aload_n (pc := 20) hX 0 rfl dX7_would_20 ?_
    refine J_bipush (pc := 21) hX (v := (-52 : Int32)) (by decide) dX7_would_21 ?_
    refine J_call2 (fun y4 I5 e6 => ?_)
    refine jrun_i (pc := 23) (jRunV hX s_X7_127 (ci := 7) (T := TX7) (N := 20) (As := [ji (-52 : Int32)]) (rest := []) rfl (by decide) (C_X7_refuses Y hz0 t0 ht0 (-52 : Int32) I0 L0 y4 I5 e6) ht0 rfl rfl ⟨by decide, by decide⟩ ⟨Nat.le_of_ble_eq_true rfl, Nat.le_of_ble_eq_true rfl⟩ (Nat.le_of_ble_eq_true rfl) dX7_would_23) ?_
    exact J_iret (pc := 26) hX (hQ _) dX7_would_26
  · refine J_iload_n (pc := 8) hX 2 rfl dX7_would_8 ?_
    refine J_i2l (pc := 9) hX dX7_would_9 ?_
    refine J_lconst (pc := 10) hX (v := (0 : Int64)) (by decide) dX7_would_10 ?_
    refine J_ldc2 (pc := 11) hX q_X7_123 dX7_would_11 ?_
    refine J_call1 (fun y7 e8 => ?_)
    refine jrun_i (pc := 14) (jRunS hX s_X7_47 (As := [jl ((p1).toInt64), jl (0 : Int64), jl (3 : Int64)]) (rest := []) (C_X7_isIn Y hz0 ((p1).toInt64) (0 : Int64) (3 : Int64) I0 L0 y7 e8) rfl rfl ⟨by decide, by decide⟩ ⟨Nat.le_of_ble_eq_true rfl, Nat.le_of_ble_eq_true rfl⟩ (Nat.le_of_ble_eq_true rfl) dX7_would_14) ?_
    refine J_if_ne (pc := 17) hX (tgt := 27) (by decide) dX7_would_17 (fun h9 => ?_) (fun h9 => ?_)
    · refine J_aload_n (pc := 27) hX 0 rfl dX7_would_27 ?_
      refine g_X7_7 (pc := 28) hX ht0 dX7_would_28 ?_
      refine J_aload_n (pc := 31) hX 0 rfl dX7_would_31 ?_
      refine g_X7_16 (pc := 32) hX ht0 dX7_would_32 ?_
      refine J_call1 (fun I10 e11 => ?_)
      refine jrun_v (pc := 35) (jRunS hX s_X7_217 (As := [jr (rfC t0 0), jr (rfC t0 2)]) (rest := []) (C_X7_pours Y hz0 (rfC t0 0) (fs_7_0 t0 ht0) (rfC t0 2) (fs_7_2 t0 ht0) I0 L0 I10 e11) rfl rfl ⟨by decide, by decide⟩ ⟨Nat.le_of_ble_eq_true rfl, Nat.le_of_ble_eq_true rfl⟩ (Nat.le_of_ble_eq_true rfl) dX7_would_35) ?_
      refine J_iconst (pc := 38) hX (v := (0 : Int32)) (by decide) dX7_would_38 ?_
      refine J_istore_n (pc := 39) hX (lo' := [(3, ji (0 : Int32)), (0, jr t0), (1, ji p0), (2, ji p1)]) (by decide) rfl dX7_would_39 ?_
      refine J_join (fun (k13 : jI → Option (Int32 × jI)) => ∀ (I12 : jI), J Y Z 7 Qf (k13 I12) 63 [(0, jr t0), (1, ji p0), (2, ji p1)] [] 0 0 NC shC rfC I12 L0) ?_ (fun k13 hk13 => ?_)
      · intro I12
        try dsimp only
        refine J_aload_n (pc := 63) hX 0 rfl dX7_would_63 ?_
        refine J_call1 (fun y14 e15 => ?_)
        refine jrun_i (pc := 64) (jRunV hX s_X7_221 (ci := 7) (T := TX7) (N := 20) (As := []) (rest := []) rfl (by decide) (C_X7_flushedAll Y hz0 t0 ht0 I12 L0 y14 e15) ht0 rfl rfl ⟨by decide, by decide⟩ ⟨Nat.le_of_ble_eq_true rfl, Nat.le_of_ble_eq_true rfl⟩ (Nat.le_of_ble_eq_true rfl) dX7_would_64) ?_
        refine J_istore_n (pc := 67) hX (lo' := [(3, ji y14), (0, jr t0), (1, ji p0), (2, ji p1)]) (by decide) rfl dX7_would_67 ?_
        refine J_aload_n (pc := 68) hX 1 rfl dX7_would_68 ?_
        refine g_X7_7 (pc := 69) hX ht0 dX7_would_69 ?_
        refine J_sipush (pc := 72) hX (v := (696 : Int32)) (by decide) dX7_would_72 ?_
        refine J_iald (pc := 75) hX (N := 784) (fs_7_0 t0 ht0) (by decide) dX7_would_75 (fun h16 => ?_)
        refine J_leti (fun y17 => ?_)
        refine J_istore (pc := 76) hX (lo' := [(4, ji y17), (3, ji y14), (0, jr t0), (1, ji p0), (2, ji p1)]) (by decide) rfl dX7_would_76 ?_
        refine J_aload_n (pc := 78) hX 2 rfl dX7_would_78 ?_
        refine J_iload_n (pc := 79) hX 3 rfl dX7_would_79 ?_
        refine J_call2 (fun y18 I19 e20 => ?_)
        refine jrun_i (pc := 80) (jRunV hX s_X7_141 (ci := 7) (T := TX7) (N := 20) (As := [ji p0]) (rest := []) rfl (by decide) (C_X7_reads Y hz0 t0 ht0 p0 I12 L0 y18 I19 e20) ht0 rfl rfl ⟨by decide, by decide⟩ ⟨Nat.le_of_ble_eq_true rfl, Nat.le_of_ble_eq_true rfl⟩ (Nat.le_of_ble_eq_true rfl) dX7_would_80) ?_
        refine J_pop (pc := 83) hX rfl dX7_would_83 ?_
        refine J_iconst (pc := 84) hX (v := (0 : Int32)) (by decide) dX7_would_84 ?_
        refine J_istore (pc := 85) hX (lo' := [(5, ji (0 : Int32)), (4, ji y17), (3, ji y14), (0, jr t0), (1, ji p0), (2, ji p1)]) (by decide) rfl dX7_would_85 ?_
        refine J_iconst (pc := 87) hX (v := (0 : Int32)) (by decide) dX7_would_87 ?_
        refine J_istore (pc := 88) hX (lo' := [(6, ji (0 : Int32)), (5, ji (0 : Int32)), (4, ji y17), (3, ji y14), (0, jr t0), (1, ji p0), (2, ji p1)]) (by decide) rfl dX7_would_88 ?_
        refine J_join (fun (k22 : Int32 → Option (Int32 × jI)) => ∀ (v21 : Int32), J Y Z 7 Qf (k22 v21) 132 [(0, jr t0), (2, ji p1), (3, ji y14), (4, ji y17), (5, ji v21)] [] 0 0 NC shC rfC I19 L0) ?_ (fun k22 hk22 => ?_)
        · intro v21
          try dsimp only
          refine J_iload_n (pc := 132) hX 1 rfl dX7_would_132 ?_
          refine J_join (fun (k24 : Int32 → Option (Int32 × jI)) => ∀ (v23 : Int32), J Y Z 7 Qf (k24 v23) 178 [(0, jr t0)] [ji v23] 0 0 NC shC rfC I19 L0) ?_ (fun k24 hk24 => ?_)
          · intro v23
            try dsimp only
            refine J_istore (pc := 178) hX (lo' := [(6, ji v23), (0, jr t0)]) (by decide) rfl dX7_would_178 ?_
            refine J_aload_n (pc := 180) hX 1 rfl dX7_would_180 ?_
            refine g_X7_16 (pc := 181) hX ht0 dX7_would_181 ?_
            refine J_aload_n (pc := 184) hX 1 rfl dX7_would_184 ?_
            refine g_X7_7 (pc := 185) hX ht0 dX7_would_185 ?_
            refine J_call1 (fun I25 e26 => ?_)
            refine jrun_v (pc := 188) (jRunS hX s_X7_217 (As := [jr (rfC t0 2), jr (rfC t0 0)]) (rest := []) (C_X7_pours Y hz0 (rfC t0 2) (fs_7_2 t0 ht0) (rfC t0 0) (fs_7_0 t0 ht0) I19 L0 I25 e26) rfl rfl ⟨by decide, by decide⟩ ⟨Nat.le_of_ble_eq_true rfl, Nat.le_of_ble_eq_true rfl⟩ (Nat.le_of_ble_eq_true rfl) dX7_would_188) ?_
            refine J_iload (pc := 191) hX 0 rfl dX7_would_191 ?_
            exact J_iret (pc := 193) hX (hQ _) dX7_would_193
          refine J_if_ne (pc := 133) hX (tgt := 143) (by decide) dX7_would_133 (fun h27 => ?_) (fun h27 => ?_)
          · refine J_iload_n (pc := 143) hX 1 rfl dX7_would_143 ?_
            refine J_iconst (pc := 144) hX (v := (1 : Int32)) (by decide) dX7_would_144 ?_
            refine J_icmp_ne (pc := 145) hX (tgt := 157) (by decide) dX7_would_145 (fun h28 => ?_) (fun h28 => ?_)
            · refine J_iload_n (pc := 157) hX 1 rfl dX7_would_157 ?_
              refine J_iconst (pc := 158) hX (v := (2 : Int32)) (by decide) dX7_would_158 ?_
              refine J_icmp_ne (pc := 159) hX (tgt := 176) (by decide) dX7_would_159 (fun h29 => ?_) (fun h29 => ?_)
              · refine J_iload (pc := 176) hX 4 rfl dX7_would_176 ?_
                refine J_sub [0] rfl ?_
                exact hk24 v21
              · refine J_aload_n (pc := 162) hX 0 rfl dX7_would_162 ?_
                refine g_X7_7 (pc := 163) hX ht0 dX7_would_163 ?_
                refine J_sipush (pc := 166) hX (v := (696 : Int32)) (by decide) dX7_would_166 ?_
                refine J_iald (pc := 169) hX (N := 784) (fs_7_0 t0 ht0) (by decide) dX7_would_169 (fun h30 => ?_)
                refine J_iload (pc := 170) hX 3 rfl dX7_would_170 ?_
                refine J_isub (pc := 172) hX dX7_would_172 ?_
                refine J_goto (pc := 173) hX (tgt := 178) (by decide) dX7_would_173 ?_
                refine J_sub [0] rfl ?_
                exact hk24 ((I19 (rfC t0 0) ((696 : Int32)).toNatClampNeg) - y17)
            · refine J_aload_n (pc := 148) hX 0 rfl dX7_would_148 ?_
              refine J_call1 (fun y31 e32 => ?_)
              refine jrun_i (pc := 149) (jRunV hX s_X7_221 (ci := 7) (T := TX7) (N := 20) (As := []) (rest := []) rfl (by decide) (C_X7_flushedAll Y hz0 t0 ht0 I19 L0 y31 e32) ht0 rfl rfl ⟨by decide, by decide⟩ ⟨Nat.le_of_ble_eq_true rfl, Nat.le_of_ble_eq_true rfl⟩ (Nat.le_of_ble_eq_true rfl) dX7_would_149) ?_
              refine J_iload_n (pc := 152) hX 2 rfl dX7_would_152 ?_
              refine J_isub (pc := 153) hX dX7_would_153 ?_
              refine J_goto (pc := 154) hX (tgt := 178) (by decide) dX7_would_154 ?_
              refine J_sub [0] rfl ?_
              exact hk24 (y31 - y14)
          · refine J_aload_n (pc := 136) hX 0 rfl dX7_would_136 ?_
            refine g_X7_94 (pc := 137) hX ht0 dX7_would_137 ?_
            refine J_goto (pc := 140) hX (tgt := 178) (by decide) dX7_would_140 ?_
            refine J_sub [0] rfl ?_
            exact hk24 (I19 t0 5)
        have lhg35 : ∀ mq : Nat, ∀ (v33 : Int32) (v34 : Int32), J Y Z 7 Qf (jfx (X7_would_F1 t0 I19 k22) (fun _ _ => none) mq v33 v34) 90 [(0, jr t0), (2, ji p1), (3, ji y14), (4, ji y17), (5, ji v33), (6, ji v34)] [] 0 0 NC shC rfC I19 L0 := by
          intro mq
          refine jfx_J (fun (_ : Nat) (g35 : Int32 → Int32 → Option (Int32 × jI)) => ∀ (v33 : Int32) (v34 : Int32), J Y Z 7 Qf (g35 v33 v34) 90 [(0, jr t0), (2, ji p1), (3, ji y14), (4, ji y17), (5, ji v33), (6, ji v34)] [] 0 0 NC shC rfC I19 L0) ?_ (fun _ g35 hg35 => ?_) mq
          · intro v33 v34
            exact J_none
          intro v33 v34
          unfold X7_would_F1
          try dsimp only
          refine J_iload (pc := 90) hX 5 rfl dX7_would_90 ?_
          refine J_bipush (pc := 92) hX (v := (64 : Int32)) (by decide) dX7_would_92 ?_
          refine J_icmp_ge (pc := 94) hX (tgt := 132) (by decide) dX7_would_94 (fun h36 => ?_) (fun h36 => ?_)
          · refine J_sub [0, 1, 2, 3, 4] rfl ?_
            exact hk22 v33
          · refine J_iload (pc := 97) hX 4 rfl dX7_would_97 ?_
            refine J_aload_n (pc := 99) hX 0 rfl dX7_would_99 ?_
            refine g_X7_38 (pc := 100) hX ht0 dX7_would_100 ?_
            refine J_iload (pc := 103) hX 5 rfl dX7_would_103 ?_
            refine J_zald (pc := 105) hX (N := 64) (fs_7_15 t0 ht0) (by decide) dX7_would_105 (fun h37 => ?_)
            refine J_join (fun (k39 : Int32 → Option (Int32 × jI)) => ∀ (v38 : Int32), J Y Z 7 Qf (k39 v38) 123 [(0, jr t0), (2, ji p1), (3, ji y14), (4, ji y17), (6, ji v34)] [ji v38, ji v33] 0 0 NC shC rfC I19 L0) ?_ (fun k39 hk39 => ?_)
            · intro v38
              try dsimp only
              refine J_iadd (pc := 123) hX dX7_would_123 ?_
              refine J_leti (fun y40 => ?_)
              refine J_istore (pc := 124) hX (lo' := [(5, ji y40), (0, jr t0), (2, ji p1), (3, ji y14), (4, ji y17), (6, ji v34)]) (by decide) rfl dX7_would_124 ?_
              refine J_iinc (pc := 126) hX (v := (v34 + (1 : Int32))) (lo' := [(6, ji (v34 + (1 : Int32))), (5, ji y40), (0, jr t0), (2, ji p1), (3, ji y14), (4, ji y17)]) 5 rfl (by rfl) (by decide) rfl dX7_would_126 ?_
              refine J_goto (pc := 129) hX (tgt := 90) (by decide) dX7_would_129 ?_
              refine J_sub [2, 3, 4, 5, 1, 0] rfl ?_
              exact hg35 y40 (v34 + (1 : Int32))
            refine J_join (fun (k41 : Option (Int32 × jI)) => J Y Z 7 Qf (k41) 122 [(0, jr t0), (2, ji p1), (3, ji y14), (4, ji y17), (6, ji v34)] [ji v33] 0 0 NC shC rfC I19 L0) ?_ (fun k41 hk41 => ?_)
            · refine J_iconst (pc := 122) hX (v := (0 : Int32)) (by decide) dX7_would_122 ?_
              exact hk39 (0 : Int32)
            refine J_if_eq (pc := 106) hX (tgt := 122) (by decide) dX7_would_106 (fun h42 => ?_) (fun h42 => ?_)
            · refine J_sub [0, 1, 2, 3, 5] rfl ?_
              exact hk41
            · refine J_aload_n (pc := 109) hX 0 rfl dX7_would_109 ?_
              refine J_iload (pc := 110) hX 5 rfl dX7_would_110 ?_
              refine J_call1 (fun y43 e44 => ?_)
              refine jrun_i (pc := 112) (jRunV hX s_X7_101 (ci := 7) (T := TX7) (N := 20) (As := [ji v34]) (rest := [ji v33]) rfl (by decide) (C_X7_isAnywhere Y hz0 t0 ht0 v34 I19 L0 y43 e44) ht0 rfl rfl ⟨by decide, by decide⟩ ⟨Nat.le_of_ble_eq_true rfl, Nat.le_of_ble_eq_true rfl⟩ (Nat.le_of_ble_eq_true rfl) dX7_would_112) ?_
              refine J_if_ne (pc := 115) hX (tgt := 122) (by decide) dX7_would_115 (fun h45 => ?_) (fun h45 => ?_)
              · refine J_sub [0, 1, 2, 3, 5] rfl ?_
                exact hk41
              · refine J_iconst (pc := 118) hX (v := (1 : Int32)) (by decide) dX7_would_118 ?_
                refine J_goto (pc := 119) hX (tgt := 123) (by decide) dX7_would_119 ?_
                refine J_sub [0, 1, 2, 3, 5] rfl ?_
                exact hk39 (1 : Int32)
        refine J_sub [4, 6, 3, 2, 1, 0] rfl ?_
        exact lhg35 1000 (0 : Int32) (0 : Int32)
      have lhg48 : ∀ mq : Nat, ∀ (v46 : Int32) (I47 : jI), J Y Z 7 Qf (jfx (X7_would_F2 t0 k13) (fun _ _ => none) mq v46 I47) 40 [(0, jr t0), (1, ji p0), (2, ji p1), (3, ji v46)] [] 0 0 NC shC rfC I47 L0 := by
        intro mq
        refine jfx_J (fun (_ : Nat) (g48 : Int32 → jI → Option (Int32 × jI)) => ∀ (v46 : Int32) (I47 : jI), J Y Z 7 Qf (g48 v46 I47) 40 [(0, jr t0), (1, ji p0), (2, ji p1), (3, ji v46)] [] 0 0 NC shC rfC I47 L0) ?_ (fun _ g48 hg48 => ?_) mq
        · intro v46 I47
          exact J_none
        intro v46 I47
        unfold X7_would_F2
        try dsimp only
        refine J_iload_n (pc := 40) hX 3 rfl dX7_would_40 ?_
        refine J_bipush (pc := 41) hX (v := (64 : Int32)) (by decide) dX7_would_41 ?_
        refine J_icmp_ge (pc := 43) hX (tgt := 63) (by decide) dX7_would_43 (fun h49 => ?_) (fun h49 => ?_)
        · refine J_sub [0, 1, 2] rfl ?_
          exact hk13 I47
        · refine J_aload_n (pc := 46) hX 0 rfl dX7_would_46 ?_
          refine g_X7_38 (pc := 47) hX ht0 dX7_would_47 ?_
          refine J_iload_n (pc := 50) hX 3 rfl dX7_would_50 ?_
          refine J_aload_n (pc := 51) hX 0 rfl dX7_would_51 ?_
          refine J_iload_n (pc := 52) hX 3 rfl dX7_would_52 ?_
          refine J_call1 (fun y50 e51 => ?_)
          refine jrun_i (pc := 53) (jRunV hX s_X7_101 (ci := 7) (T := TX7) (N := 20) (As := [ji v46]) (rest := [ji v46, jr (rfC t0 15)]) rfl (by decide) (C_X7_isAnywhere Y hz0 t0 ht0 v46 I47 L0 y50 e51) ht0 rfl rfl ⟨by decide, by decide⟩ ⟨Nat.le_of_ble_eq_true rfl, Nat.le_of_ble_eq_true rfl⟩ (Nat.le_of_ble_eq_true rfl) dX7_would_53) ?_
          refine J_zast (pc := 56) hX (N := 64) (fs_7_15 t0 ht0) (by decide) dX7_would_56 (fun h52 I53 => ?_)
          refine J_iinc (pc := 57) hX (v := (v46 + (1 : Int32))) (lo' := [(3, ji (v46 + (1 : Int32))), (0, jr t0), (1, ji p0), (2, ji p1)]) 3 rfl (by rfl) (by decide) rfl dX7_would_57 ?_
          refine J_goto (pc := 60) hX (tgt := 40) (by decide) dX7_would_60 ?_
          refine J_sub [1, 2, 3, 0] rfl ?_
          exact hg48 (v46 + (1 : Int32)) I53
      refine J_sub [1, 2, 3, 0] rfl ?_
      exact lhg48 1000 (0 : Int32) I10
    · refine J_aload_n (pc := 20) hX 0 rfl dX7_would_20 ?_
      refine J_bipush (pc := 21) hX (v := (-52 : Int32)) (by decide) dX7_would_21 ?_
      refine J_call2 (fun y54 I55 e56 => ?_)
      refine jrun_i (pc := 23) (jRunV hX s_X7_127 (ci := 7) (T := TX7) (N := 20) (As := [ji (-52 : Int32)]) (rest := []) rfl (by decide) (C_X7_refuses Y hz0 t0 ht0 (-52 : Int32) I0 L0 y54 I55 e56) ht0 rfl rfl ⟨by decide, by decide⟩ ⟨Nat.le_of_ble_eq_true rfl, Nat.le_of_ble_eq_true rfl⟩ (Nat.le_of_ble_eq_true rfl) dX7_would_23) ?_
      exact J_iret (pc := 26) hX (hQ _) dX7_would_26
theorem C_X7_would (Y : jY) (hz0 : Y.zf = false) (t0 : Nat) (ht0 : shC t0 = 8) (p0 : Int32) (p1 : Int32) (I0 : jI) (L0 : jL) (r : Int32) (I1 : jI) (h : X7_would t0 p0 p1 I0 = some (r, I1)) : jMet Y yX7_would cX7_would 7 (some .int) 48 2247 0 0 [jr t0, ji p0, ji p1] NC shC rfC I0 L0 (some (ji r)) NC shC rfC I1 L0 :=
  jmet_of _ _ h (fun Z r => jQ Y Z 0 0 (some (ji r.1)) NC shC rfC r.2 L0) (fun _ => rfl) (by decide) (Nat.le_of_ble_eq_true rfl) (fun Z hX => W_X7_would hz0 t0 ht0 p0 p1 I0 L0 hX (fun _ => rfl))
def X7_wrongRow_F1 (t0 : Nat) (p0 : Int32) (p1 : Int32) (L0 : jL) (y11 : Int32) (k16 : Int32 → Option (Int32)) (g20 : Int32 → Int32 → Option (Int32)) : Int32 → Int32 → Option (Int32) := fun (v18 : Int32) (v19 : Int32) =>
if p1 ≤ v19 then (
k16 v18)
else (
if v18 = 0 then (
k16 v18)
else (
if jin (((40 : Int32) * p0) + (y11 * v19)) 320 then (
(X7_isPage (L0 (rfC t0 13) ((((40 : Int32) * p0) + (y11 * v19))).toNatClampNeg)).bind (fun (y24 : Int32) =>
g20 y24 (v19 + (1 : Int32)))) else none))
def X7_wrongRow (t0 : Nat) (p0 : Int32) (p1 : Int32) (p2 : Int32) (I0 : jI) (L0 : jL) : Option (Int32) :=
(X7_isShelf p0).bind (fun (y1 : Int32) =>
if y1 = 0 then (
some (-52 : Int32))
else (
(X7_isIn ((p1).toInt64) (0 : Int64) ((p2).toInt64)).bind (fun (y4 : Int32) =>
if y4 = 0 then (
some (-52 : Int32))
else (
(X7_amiss t0 p0 I0).bind (fun (y7 : Int32) =>
if y7 = 0 then (
jlet (if p2 = (20 : Int32) then (2 : Int32) else (1 : Int32)) (fun (y11 : Int32) =>
if jin p0 8 then (
jlet (if (I0 (rfC t0 12) (p0).toNatClampNeg) < (y11 * p1) then (0 : Int32) else (1 : Int32)) (fun (y14 : Int32) =>
jlet (fun (v15 : Int32) =>
if v15 = 0 then (
some (-52 : Int32))
else (
some (0 : Int32))) (fun (k16 : Int32 → Option (Int32)) =>
jfx (X7_wrongRow_F1 t0 p0 p1 L0 y11 k16) (fun _ _ => none) 1000 y14 (0 : Int32)))) else none))
else (
some y7))))))
set_option maxRecDepth 20000 in
set_option maxHeartbeats 4000000 in
theorem W_X7_wrongRow {Y : jY} {Z : jZ} {Qf : Int32 → State → Prop} (hz0 : Y.zf = false) (t0 : Nat) (ht0 : shC t0 = 8) (p0 : Int32) (p1 : Int32) (p2 : Int32) (I0 : jI) (L0 : jL) (hX : jOK Y Z RX7 cX7_wrongRow 8 "wrongRow" (some .int) 3 126 0 0) (hQ : ∀ r : Int32, Qf r = jQ Y Z 0 0 (some (ji r)) NC shC rfC I0 L0) : J Y Z 8 Qf (X7_wrongRow t0 p0 p1 p2 I0 L0) 0 [(0, jr t0), (1, ji p0), (2, ji p1), (3, ji p2)] [] 0 0 NC shC rfC I0 L0 := by
  unfold X7_wrongRow
  refine J_iload_n (pc := 0) hX 1 rfl dX7_wrongRow_0 ?_
  refine J_call1 (fun y1 e2 => ?_)
  refine jrun_i (pc := 1) (jRunS hX s_X7_188 (As := [ji p0]) (rest := []) (C_X7_isShelf Y hz0 p0 I0 L0 y1 e2) rfl rfl ⟨by decide, by decide⟩ ⟨Nat.le_of_ble_eq_true rfl, Nat.le_of_ble_eq_true rfl⟩ (Nat.le_of_ble_eq_true rfl) dX7_wrongRow_1) ?_
  refine J_if_eq (pc := 4) hX (tgt := 18) (by decide) dX7_wrongRow_4 (fun h3 => ?_) (fun h3 => ?_)
  · refine J_bipush (pc := 18) hX (v := (-52 : Int32)) (by decide) dX7_wrongRow_18 ?_
    exact J_iret (pc := 20) hX (hQ _) dX7_wrongRow_20
  · refine J_iload_n (pc := 7) hX 2 rfl dX7_wrongRow_7 ?_
    refine J_i2l (pc := 8) hX dX7_wrongRow_8 ?_
    refine J_lconst (pc := 9) hX (v := (0 : Int64)) (by decide) dX7_wrongRow_9 ?_
    refine J_iload_n (pc := 10) hX 3 rfl dX7_wrongRow_10 ?_
    refine J_i2l (pc := 11) hX dX7_wrongRow_11 ?_
    refine J_call1 (fun y4 e5 => ?_)
    refine jrun_i (pc := 12) (jRunS hX s_X7_47 (As := [jl ((p1).toInt64), jl (0 : Int64), jl ((p2).toInt64)]) (rest := []) (C_X7_isIn Y hz0 ((p1).toInt64) (0 : Int64) ((p2).toInt64) I0 L0 y4 e5) rfl rfl ⟨by decide, by decide⟩ ⟨Nat.le_of_ble_eq_true rfl, Nat.le_of_ble_eq_true rfl⟩ (Nat.le_of_ble_eq_true rfl) dX7_wrongRow_12) ?_
    refine J_if_ne (pc := 15) hX (tgt := 21) (by decide) dX7_wrongRow_15 (fun h6 => ?_) (fun h6 => ?_)
    · refine J_aload_n (pc := 21) hX 0 rfl dX7_wrongRow_21 ?_
      refine J_iload_n (pc := 22) hX 1 rfl dX7_wrongRow_22 ?_
      refine J_call1 (fun y7 e8 => ?_)
      refine jrun_i (pc := 23) (jRunV hX s_X7_195 (ci := 7) (T := TX7) (N := 20) (As := [ji p0]) (rest := []) rfl (by decide) (C_X7_amiss Y hz0 t0 ht0 p0 I0 L0 y7 e8) ht0 rfl rfl ⟨by decide, by decide⟩ ⟨Nat.le_of_ble_eq_true rfl, Nat.le_of_ble_eq_true rfl⟩ (Nat.le_of_ble_eq_true rfl) dX7_wrongRow_23) ?_
      refine J_istore (pc := 26) hX (lo' := [(4, ji y7), (0, jr t0), (1, ji p0), (2, ji p1), (3, ji p2)]) (by decide) rfl dX7_wrongRow_26 ?_
      refine J_iload (pc := 28) hX 0 rfl dX7_wrongRow_28 ?_
      refine J_if_eq (pc := 30) hX (tgt := 36) (by decide) dX7_wrongRow_30 (fun h9 => ?_) (fun h9 => ?_)
      · refine J_iload_n (pc := 36) hX 4 rfl dX7_wrongRow_36 ?_
        refine J_bipush (pc := 37) hX (v := (20 : Int32)) (by decide) dX7_wrongRow_37 ?_
        refine J_vjoin (fun kq (y11 : Int32) => J Y Z 8 Qf (kq) 47 [(4, ji y7), (0, jr t0), (1, ji p0), (2, ji p1), (3, ji p2)] [ji y11] 0 0 NC shC rfC I0 L0) (fun y11 => ?_) (fun hj => ?_)
        · try dsimp only
          refine J_istore (pc := 47) hX (lo' := [(5, ji y11), (4, ji y7), (0, jr t0), (1, ji p0), (2, ji p1), (3, ji p2)]) (by decide) rfl dX7_wrongRow_47 ?_
          refine J_iload (pc := 49) hX 0 rfl dX7_wrongRow_49 ?_
          refine J_iload_n (pc := 51) hX 4 rfl dX7_wrongRow_51 ?_
          refine J_imul (pc := 52) hX dX7_wrongRow_52 ?_
          refine J_aload_n (pc := 53) hX 2 rfl dX7_wrongRow_53 ?_
          refine g_X7_28 (pc := 54) hX ht0 dX7_wrongRow_54 ?_
          refine J_iload_n (pc := 57) hX 3 rfl dX7_wrongRow_57 ?_
          refine J_iald (pc := 58) hX (N := 8) (fs_7_12 t0 ht0) (by decide) dX7_wrongRow_58 (fun h12 => ?_)
          refine J_vjoin (fun kq (y14 : Int32) => J Y Z 8 Qf (kq) 67 [(5, ji y11), (4, ji y7), (0, jr t0), (1, ji p0), (2, ji p1), (3, ji p2)] [ji y14] 0 0 NC shC rfC I0 L0) (fun y14 => ?_) (fun hj => ?_)
          · try dsimp only
            refine J_istore (pc := 67) hX (lo' := [(6, ji y14), (5, ji y11), (4, ji y7), (0, jr t0), (1, ji p0), (2, ji p1), (3, ji p2)]) (by decide) rfl dX7_wrongRow_67 ?_
            refine J_iconst (pc := 69) hX (v := (0 : Int32)) (by decide) dX7_wrongRow_69 ?_
            refine J_istore (pc := 70) hX (lo' := [(7, ji (0 : Int32)), (6, ji y14), (5, ji y11), (4, ji y7), (0, jr t0), (1, ji p0), (2, ji p1), (3, ji p2)]) (by decide) rfl dX7_wrongRow_70 ?_
            refine J_join (fun (k16 : Int32 → Option (Int32)) => ∀ (v15 : Int32), J Y Z 8 Qf (k16 v15) 109 [(6, ji v15)] [] 0 0 NC shC rfC I0 L0) ?_ (fun k16 hk16 => ?_)
            · intro v15
              try dsimp only
              refine J_iload (pc := 109) hX 0 rfl dX7_wrongRow_109 ?_
              refine J_if_eq (pc := 111) hX (tgt := 118) (by decide) dX7_wrongRow_111 (fun h17 => ?_) (fun h17 => ?_)
              · refine J_bipush (pc := 118) hX (v := (-52 : Int32)) (by decide) dX7_wrongRow_118 ?_
                exact J_iret (pc := 120) hX (hQ _) dX7_wrongRow_120
              · refine J_iconst (pc := 114) hX (v := (0 : Int32)) (by decide) dX7_wrongRow_114 ?_
                refine J_goto (pc := 115) hX (tgt := 120) (by decide) dX7_wrongRow_115 ?_
                exact J_iret (pc := 120) hX (hQ _) dX7_wrongRow_120
            have lhg20 : ∀ mq : Nat, ∀ (v18 : Int32) (v19 : Int32), J Y Z 8 Qf (jfx (X7_wrongRow_F1 t0 p0 p1 L0 y11 k16) (fun _ _ => none) mq v18 v19) 72 [(0, jr t0), (1, ji p0), (2, ji p1), (5, ji y11), (6, ji v18), (7, ji v19)] [] 0 0 NC shC rfC I0 L0 := by
              intro mq
              refine jfx_J (fun (_ : Nat) (g20 : Int32 → Int32 → Option (Int32)) => ∀ (v18 : Int32) (v19 : Int32), J Y Z 8 Qf (g20 v18 v19) 72 [(0, jr t0), (1, ji p0), (2, ji p1), (5, ji y11), (6, ji v18), (7, ji v19)] [] 0 0 NC shC rfC I0 L0) ?_ (fun _ g20 hg20 => ?_) mq
              · intro v18 v19
                exact J_none
              intro v18 v19
              unfold X7_wrongRow_F1
              try dsimp only
              refine J_iload (pc := 72) hX 5 rfl dX7_wrongRow_72 ?_
              refine J_iload_n (pc := 74) hX 2 rfl dX7_wrongRow_74 ?_
              refine J_icmp_ge (pc := 75) hX (tgt := 109) (by decide) dX7_wrongRow_75 (fun h21 => ?_) (fun h21 => ?_)
              · refine J_sub [4] rfl ?_
                exact hk16 v18
              · refine J_iload (pc := 78) hX 4 rfl dX7_wrongRow_78 ?_
                refine J_if_eq (pc := 80) hX (tgt := 109) (by decide) dX7_wrongRow_80 (fun h22 => ?_) (fun h22 => ?_)
                · refine J_sub [4] rfl ?_
                  exact hk16 v18
                · refine J_aload_n (pc := 83) hX 0 rfl dX7_wrongRow_83 ?_
                  refine g_X7_31 (pc := 84) hX ht0 dX7_wrongRow_84 ?_
                  refine J_bipush (pc := 87) hX (v := (40 : Int32)) (by decide) dX7_wrongRow_87 ?_
                  refine J_iload_n (pc := 89) hX 1 rfl dX7_wrongRow_89 ?_
                  refine J_imul (pc := 90) hX dX7_wrongRow_90 ?_
                  refine J_iload (pc := 91) hX 3 rfl dX7_wrongRow_91 ?_
                  refine J_iload (pc := 93) hX 5 rfl dX7_wrongRow_93 ?_
                  refine J_imul (pc := 95) hX dX7_wrongRow_95 ?_
                  refine J_iadd (pc := 96) hX dX7_wrongRow_96 ?_
                  refine J_lald (pc := 97) hX (N := 320) (fs_7_13 t0 ht0) (by decide) dX7_wrongRow_97 (fun h23 => ?_)
                  refine J_call1 (fun y24 e25 => ?_)
                  refine jrun_i (pc := 98) (jRunS hX s_X7_137 (As := [jl (L0 (rfC t0 13) ((((40 : Int32) * p0) + (y11 * v19))).toNatClampNeg)]) (rest := []) (C_X7_isPage Y hz0 (L0 (rfC t0 13) ((((40 : Int32) * p0) + (y11 * v19))).toNatClampNeg) I0 L0 y24 e25) rfl rfl ⟨by decide, by decide⟩ ⟨Nat.le_of_ble_eq_true rfl, Nat.le_of_ble_eq_true rfl⟩ (Nat.le_of_ble_eq_true rfl) dX7_wrongRow_98) ?_
                  refine J_istore (pc := 101) hX (lo' := [(6, ji y24), (0, jr t0), (1, ji p0), (2, ji p1), (5, ji y11), (7, ji v19)]) (by decide) rfl dX7_wrongRow_101 ?_
                  refine J_iinc (pc := 103) hX (v := (v19 + (1 : Int32))) (lo' := [(7, ji (v19 + (1 : Int32))), (6, ji y24), (0, jr t0), (1, ji p0), (2, ji p1), (5, ji y11)]) 5 rfl (by rfl) (by decide) rfl dX7_wrongRow_103 ?_
                  refine J_goto (pc := 106) hX (tgt := 72) (by decide) dX7_wrongRow_106 ?_
                  refine J_sub [2, 3, 4, 5, 1, 0] rfl ?_
                  exact hg20 y24 (v19 + (1 : Int32))
            refine J_sub [4, 5, 6, 2, 1, 0] rfl ?_
            exact lhg20 1000 y14 (0 : Int32)
          try dsimp only at hj
          refine J_icmp_gtV (pc := 59) hX (tgt := 66) (by decide) dX7_wrongRow_59 (fun h13 => ?_) (fun h13 => ?_)
          · refine J_iconst (pc := 66) hX (v := (0 : Int32)) (by decide) dX7_wrongRow_66 ?_
            exact hj _
          · refine J_iconst (pc := 62) hX (v := (1 : Int32)) (by decide) dX7_wrongRow_62 ?_
            refine J_goto (pc := 63) hX (tgt := 67) (by decide) dX7_wrongRow_63 ?_
            exact hj _
        try dsimp only at hj
        refine J_icmp_neV (pc := 39) hX (tgt := 46) (by decide) dX7_wrongRow_39 (fun h10 => ?_) (fun h10 => ?_)
        · refine J_iconst (pc := 46) hX (v := (1 : Int32)) (by decide) dX7_wrongRow_46 ?_
          exact hj _
        · refine J_iconst (pc := 42) hX (v := (2 : Int32)) (by decide) dX7_wrongRow_42 ?_
          refine J_goto (pc := 43) hX (tgt := 47) (by decide) dX7_wrongRow_43 ?_
          exact hj _
      · refine J_iload (pc := 33) hX 0 rfl dX7_wrongRow_33 ?_
        exact J_iret (pc := 35) hX (hQ _) dX7_wrongRow_35
    · refine J_bipush (pc := 18) hX (v := (-52 : Int32)) (by decide) dX7_wrongRow_18 ?_
      exact J_iret (pc := 20) hX (hQ _) dX7_wrongRow_20
theorem C_X7_wrongRow (Y : jY) (hz0 : Y.zf = false) (t0 : Nat) (ht0 : shC t0 = 8) (p0 : Int32) (p1 : Int32) (p2 : Int32) (I0 : jI) (L0 : jL) (r : Int32) (h : X7_wrongRow t0 p0 p1 p2 I0 L0 = some r) : jMet Y yX7_wrongRow cX7_wrongRow 8 (some .int) 3 126 0 0 [jr t0, ji p0, ji p1, ji p2] NC shC rfC I0 L0 (some (ji r)) NC shC rfC I0 L0 :=
  jmet_of _ _ h (fun Z r => jQ Y Z 0 0 (some (ji r)) NC shC rfC I0 L0) (fun _ => rfl) (by decide) (Nat.le_of_ble_eq_true rfl) (fun Z hX => W_X7_wrongRow hz0 t0 ht0 p0 p1 p2 I0 L0 hX (fun _ => rfl))
def X7_readsRow_F1 (t0 : Nat) (p0 : Int32) (p1 : Int32) (L0 : jL) (g6 : Int32 → jI → Option (jI)) : Int32 → jI → Option (jI) := fun (v4 : Int32) (I5 : jI) =>
if p1 ≤ v4 then (
some I5)
else (
if jin (((40 : Int32) * p0) + v4) 320 then (
jb2 (X7_reads t0 (((L0 (rfC t0 13) ((((40 : Int32) * p0) + v4)).toNatClampNeg)).toInt32) I5) (fun (y9 : Int32) (I10 : jI) =>
jlet (jup I10 t0 16 ((I10 t0 16) + (I10 t0 5))) (fun (I12 : jI) =>
jlet (if (I12 t0 6) = (1 : Int32) then (1 : Int32) else (0 : Int32)) (fun (y14 : Int32) =>
jlet (jup I12 t0 17 ((I12 t0 17) + y14)) (fun (I15 : jI) =>
jlet (if (I15 t0 6) = 0 then (1 : Int32) else (0 : Int32)) (fun (y17 : Int32) =>
jlet (jup I15 t0 18 ((I15 t0 18) + y17)) (fun (I18 : jI) =>
g6 (v4 + (1 : Int32)) I18))))))) else none)
def X7_readsRow (t0 : Nat) (p0 : Int32) (p1 : Int32) (I0 : jI) (L0 : jL) : Option (jI) :=
jlet (jup I0 t0 16 (0 : Int32)) (fun (I1 : jI) =>
jlet (jup I1 t0 17 (0 : Int32)) (fun (I2 : jI) =>
jlet (jup I2 t0 18 (0 : Int32)) (fun (I3 : jI) =>
jfx (X7_readsRow_F1 t0 p0 p1 L0) (fun _ _ => none) 1000 (0 : Int32) I3)))
set_option maxRecDepth 20000 in
set_option maxHeartbeats 4000000 in
theorem W_X7_readsRow {Y : jY} {Z : jZ} {Qf : jI → State → Prop} (hz0 : Y.zf = false) (t0 : Nat) (ht0 : shC t0 = 8) (p0 : Int32) (p1 : Int32) (I0 : jI) (L0 : jL) (hX : jOK Y Z RX7 cX7_readsRow 4 "readsRow" none 48 2247 0 0) (hQ : ∀ r : jI, Qf r = jQ Y Z 0 0 none NC shC rfC r L0) : J Y Z 4 Qf (X7_readsRow t0 p0 p1 I0 L0) 0 [(0, jr t0), (1, ji p0), (2, ji p1)] [] 0 0 NC shC rfC I0 L0 := by
  unfold X7_readsRow
  refine J_aload_n (pc := 0) hX 0 rfl dX7_readsRow_0 ?_
  refine J_iconst (pc := 1) hX (v := (0 : Int32)) (by decide) dX7_readsRow_1 ?_
  refine p_X7_224 (pc := 2) hX ht0 dX7_readsRow_2 (fun I1 => ?_)
  refine J_aload_n (pc := 5) hX 0 rfl dX7_readsRow_5 ?_
  refine J_iconst (pc := 6) hX (v := (0 : Int32)) (by decide) dX7_readsRow_6 ?_
  refine p_X7_227 (pc := 7) hX ht0 dX7_readsRow_7 (fun I2 => ?_)
  refine J_aload_n (pc := 10) hX 0 rfl dX7_readsRow_10 ?_
  refine J_iconst (pc := 11) hX (v := (0 : Int32)) (by decide) dX7_readsRow_11 ?_
  refine p_X7_230 (pc := 12) hX ht0 dX7_readsRow_12 (fun I3 => ?_)
  refine J_iconst (pc := 15) hX (v := (0 : Int32)) (by decide) dX7_readsRow_15 ?_
  refine J_istore_n (pc := 16) hX (lo' := [(3, ji (0 : Int32)), (0, jr t0), (1, ji p0), (2, ji p1)]) (by decide) rfl dX7_readsRow_16 ?_
  have lhg6 : ∀ mq : Nat, ∀ (v4 : Int32) (I5 : jI), J Y Z 4 Qf (jfx (X7_readsRow_F1 t0 p0 p1 L0) (fun _ _ => none) mq v4 I5) 17 [(0, jr t0), (1, ji p0), (2, ji p1), (3, ji v4)] [] 0 0 NC shC rfC I5 L0 := by
    intro mq
    refine jfx_J (fun (_ : Nat) (g6 : Int32 → jI → Option (jI)) => ∀ (v4 : Int32) (I5 : jI), J Y Z 4 Qf (g6 v4 I5) 17 [(0, jr t0), (1, ji p0), (2, ji p1), (3, ji v4)] [] 0 0 NC shC rfC I5 L0) ?_ (fun _ g6 hg6 => ?_) mq
    · intro v4 I5
      exact J_none
    intro v4 I5
    unfold X7_readsRow_F1
    try dsimp only
    refine J_iload_n (pc := 17) hX 3 rfl dX7_readsRow_17 ?_
    refine J_iload_n (pc := 18) hX 2 rfl dX7_readsRow_18 ?_
    refine J_icmp_ge (pc := 19) hX (tgt := 101) (by decide) dX7_readsRow_19 (fun h7 => ?_) (fun h7 => ?_)
    · exact J_vret (pc := 101) hX (hQ _) dX7_readsRow_101
    · refine J_aload_n (pc := 22) hX 0 rfl dX7_readsRow_22 ?_
      refine J_aload_n (pc := 23) hX 0 rfl dX7_readsRow_23 ?_
      refine g_X7_31 (pc := 24) hX ht0 dX7_readsRow_24 ?_
      refine J_bipush (pc := 27) hX (v := (40 : Int32)) (by decide) dX7_readsRow_27 ?_
      refine J_iload_n (pc := 29) hX 1 rfl dX7_readsRow_29 ?_
      refine J_imul (pc := 30) hX dX7_readsRow_30 ?_
      refine J_iload_n (pc := 31) hX 3 rfl dX7_readsRow_31 ?_
      refine J_iadd (pc := 32) hX dX7_readsRow_32 ?_
      refine J_lald (pc := 33) hX (N := 320) (fs_7_13 t0 ht0) (by decide) dX7_readsRow_33 (fun h8 => ?_)
      refine J_l2i (pc := 34) hX dX7_readsRow_34 ?_
      refine J_call2 (fun y9 I10 e11 => ?_)
      refine jrun_i (pc := 35) (jRunV hX s_X7_141 (ci := 7) (T := TX7) (N := 20) (As := [ji (((L0 (rfC t0 13) ((((40 : Int32) * p0) + v4)).toNatClampNeg)).toInt32)]) (rest := []) rfl (by decide) (C_X7_reads Y hz0 t0 ht0 (((L0 (rfC t0 13) ((((40 : Int32) * p0) + v4)).toNatClampNeg)).toInt32) I5 L0 y9 I10 e11) ht0 rfl rfl ⟨by decide, by decide⟩ ⟨Nat.le_of_ble_eq_true rfl, Nat.le_of_ble_eq_true rfl⟩ (Nat.le_of_ble_eq_true rfl) dX7_readsRow_35) ?_
      refine J_pop (pc := 38) hX rfl dX7_readsRow_38 ?_
      refine J_aload_n (pc := 39) hX 0 rfl dX7_readsRow_39 ?_
      refine J_dup (pc := 40) hX rfl dX7_readsRow_40 ?_
      refine g_X7_224 (pc := 41) hX ht0 dX7_readsRow_41 ?_
      refine J_aload_n (pc := 44) hX 0 rfl dX7_readsRow_44 ?_
      refine g_X7_94 (pc := 45) hX ht0 dX7_readsRow_45 ?_
      refine J_iadd (pc := 48) hX dX7_readsRow_48 ?_
      refine p_X7_224 (pc := 49) hX ht0 dX7_readsRow_49 (fun I12 => ?_)
      refine J_aload_n (pc := 52) hX 0 rfl dX7_readsRow_52 ?_
      refine J_dup (pc := 53) hX rfl dX7_readsRow_53 ?_
      refine g_X7_227 (pc := 54) hX ht0 dX7_readsRow_54 ?_
      refine J_aload_n (pc := 57) hX 0 rfl dX7_readsRow_57 ?_
      refine g_X7_98 (pc := 58) hX ht0 dX7_readsRow_58 ?_
      refine J_iconst (pc := 61) hX (v := (1 : Int32)) (by decide) dX7_readsRow_61 ?_
      refine J_vjoin (fun kq (y14 : Int32) => J Y Z 4 Qf (kq) 70 [(0, jr t0), (1, ji p0), (2, ji p1), (3, ji v4)] [ji y14, ji (I12 t0 17), jr t0] 0 0 NC shC rfC I12 L0) (fun y14 => ?_) (fun hj => ?_)
      · try dsimp only
        refine J_iadd (pc := 70) hX dX7_readsRow_70 ?_
        refine p_X7_227 (pc := 71) hX ht0 dX7_readsRow_71 (fun I15 => ?_)
        refine J_aload_n (pc := 74) hX 0 rfl dX7_readsRow_74 ?_
        refine J_dup (pc := 75) hX rfl dX7_readsRow_75 ?_
        refine g_X7_230 (pc := 76) hX ht0 dX7_readsRow_76 ?_
        refine J_aload_n (pc := 79) hX 0 rfl dX7_readsRow_79 ?_
        refine g_X7_98 (pc := 80) hX ht0 dX7_readsRow_80 ?_
        refine J_vjoin (fun kq (y17 : Int32) => J Y Z 4 Qf (kq) 91 [(0, jr t0), (1, ji p0), (2, ji p1), (3, ji v4)] [ji y17, ji (I15 t0 18), jr t0] 0 0 NC shC rfC I15 L0) (fun y17 => ?_) (fun hj => ?_)
        · try dsimp only
          refine J_iadd (pc := 91) hX dX7_readsRow_91 ?_
          refine p_X7_230 (pc := 92) hX ht0 dX7_readsRow_92 (fun I18 => ?_)
          refine J_iinc (pc := 95) hX (v := (v4 + (1 : Int32))) (lo' := [(3, ji (v4 + (1 : Int32))), (0, jr t0), (1, ji p0), (2, ji p1)]) 3 rfl (by rfl) (by decide) rfl dX7_readsRow_95 ?_
          refine J_goto (pc := 98) hX (tgt := 17) (by decide) dX7_readsRow_98 ?_
          refine J_sub [1, 2, 3, 0] rfl ?_
          exact hg6 (v4 + (1 : Int32)) I18
        try dsimp only at hj
        refine J_if_neV (pc := 83) hX (tgt := 90) (by decide) dX7_readsRow_83 (fun h16 => ?_) (fun h16 => ?_)
        · refine J_iconst (pc := 90) hX (v := (0 : Int32)) (by decide) dX7_readsRow_90 ?_
          exact hj _
        · refine J_iconst (pc := 86) hX (v := (1 : Int32)) (by decide) dX7_readsRow_86 ?_
          refine J_goto (pc := 87) hX (tgt := 91) (by decide) dX7_readsRow_87 ?_
          exact hj _
      try dsimp only at hj
      refine J_icmp_neV (pc := 62) hX (tgt := 69) (by decide) dX7_readsRow_62 (fun h13 => ?_) (fun h13 => ?_)
      · refine J_iconst (pc := 69) hX (v := (0 : Int32)) (by decide) dX7_readsRow_69 ?_
        exact hj _
      · refine J_iconst (pc := 65) hX (v := (1 : Int32)) (by decide) dX7_readsRow_65 ?_
        refine J_goto (pc := 66) hX (tgt := 70) (by decide) dX7_readsRow_66 ?_
        exact hj _
  refine J_sub [1, 2, 3, 0] rfl ?_
  exact lhg6 1000 (0 : Int32) I3
theorem C_X7_readsRow (Y : jY) (hz0 : Y.zf = false) (t0 : Nat) (ht0 : shC t0 = 8) (p0 : Int32) (p1 : Int32) (I0 : jI) (L0 : jL) (I1 : jI) (h : X7_readsRow t0 p0 p1 I0 L0 = some I1) : jMet Y yX7_readsRow cX7_readsRow 4 none 48 2247 0 0 [jr t0, ji p0, ji p1] NC shC rfC I0 L0 none NC shC rfC I1 L0 :=
  jmet_of _ _ h (fun Z r => jQ Y Z 0 0 none NC shC rfC r L0) (fun _ => rfl) (by decide) (Nat.le_of_ble_eq_true rfl) (fun Z hX => W_X7_readsRow hz0 t0 ht0 p0 p1 I0 L0 hX (fun _ => rfl))
def X7_plan (t0 : Nat) (p0 : Int32) (p1 : Int32) (p2 : Int32) (I0 : jI) (L0 : jL) : Option (Int32 × jI) :=
(X7_isIn ((p2).toInt64) (0 : Int64) (2 : Int64)).bind (fun (y1 : Int32) =>
jlet (fun (v3 : Int32) =>
if v3 = 0 then (
(X7_pours (rfC t0 0) (rfC t0 2) I0).bind (fun (I6 : jI) =>
(X7_readsRow t0 p0 p1 I6 L0).bind (fun (I8 : jI) =>
(X7_pours (rfC t0 2) (rfC t0 0) I8).bind (fun (I10 : jI) =>
if p2 = 0 then (
some ((I10 t0 16), I10))
else (
if p2 = (1 : Int32) then (
some ((I10 t0 17), I10))
else (
some ((I10 t0 18), I10)))))))
else (
jb2 (X7_refuses t0 v3 I0) (fun (y14 : Int32) (I15 : jI) =>
some (y14, I15)))) (fun (k4 : Int32 → Option (Int32 × jI)) =>
if y1 = 0 then (
k4 (-52 : Int32))
else (
(X7_wrongRow t0 p0 p1 (40 : Int32) I0 L0).bind (fun (y18 : Int32) =>
k4 y18))))
set_option maxRecDepth 20000 in
set_option maxHeartbeats 4000000 in
theorem W_X7_plan {Y : jY} {Z : jZ} {Qf : Int32 × jI → State → Prop} (hz0 : Y.zf = false) (t0 : Nat) (ht0 : shC t0 = 8) (p0 : Int32) (p1 : Int32) (p2 : Int32) (I0 : jI) (L0 : jL) (hX : jOK Y Z RX7 cX7_plan 5 "plan" (some .int) 49 2270 0 0) (hQ : ∀ r : Int32 × jI, Qf r = jQ Y Z 0 0 (some (ji r.1)) NC shC rfC r.2 L0) : J Y Z 5 Qf (X7_plan t0 p0 p1 p2 I0 L0) 0 [(0, jr t0), (1, ji p0), (2, ji p1), (3, ji p2)] [] 0 0 NC shC rfC I0 L0 := by
  unfold X7_plan
  refine J_iload_n (pc := 0) hX 3 rfl dX7_plan_0 ?_
  refine J_i2l (pc := 1) hX dX7_plan_1 ?_
  refine J_lconst (pc := 2) hX (v := (0 : Int64)) (by decide) dX7_plan_2 ?_
  refine J_ldc2 (pc := 3) hX q_X7_133 dX7_plan_3 ?_
  refine J_call1 (fun y1 e2 => ?_)
  refine jrun_i (pc := 6) (jRunS hX s_X7_47 (As := [jl ((p2).toInt64), jl (0 : Int64), jl (2 : Int64)]) (rest := []) (C_X7_isIn Y hz0 ((p2).toInt64) (0 : Int64) (2 : Int64) I0 L0 y1 e2) rfl rfl ⟨by decide, by decide⟩ ⟨Nat.le_of_ble_eq_true rfl, Nat.le_of_ble_eq_true rfl⟩ (Nat.le_of_ble_eq_true rfl) dX7_plan_6) ?_
  refine J_join (fun (k4 : Int32 → Option (Int32 × jI)) => ∀ (v3 : Int32), J Y Z 5 Qf (k4 v3) 25 [(0, jr t0), (1, ji p0), (2, ji p1), (3, ji p2)] [ji v3] 0 0 NC shC rfC I0 L0) ?_ (fun k4 hk4 => ?_)
  · intro v3
    try dsimp only
    refine J_istore (pc := 25) hX (lo' := [(4, ji v3), (0, jr t0), (1, ji p0), (2, ji p1), (3, ji p2)]) (by decide) rfl dX7_plan_25 ?_
    refine J_iload (pc := 27) hX 0 rfl dX7_plan_27 ?_
    refine J_if_eq (pc := 29) hX (tgt := 39) (by decide) dX7_plan_29 (fun h5 => ?_) (fun h5 => ?_)
    · refine J_aload_n (pc := 39) hX 1 rfl dX7_plan_39 ?_
      refine g_X7_7 (pc := 40) hX ht0 dX7_plan_40 ?_
      refine J_aload_n (pc := 43) hX 1 rfl dX7_plan_43 ?_
      refine g_X7_16 (pc := 44) hX ht0 dX7_plan_44 ?_
      refine J_call1 (fun I6 e7 => ?_)
      refine jrun_v (pc := 47) (jRunS hX s_X7_217 (As := [jr (rfC t0 0), jr (rfC t0 2)]) (rest := []) (C_X7_pours Y hz0 (rfC t0 0) (fs_7_0 t0 ht0) (rfC t0 2) (fs_7_2 t0 ht0) I0 L0 I6 e7) rfl rfl ⟨by decide, by decide⟩ ⟨Nat.le_of_ble_eq_true rfl, Nat.le_of_ble_eq_true rfl⟩ (Nat.le_of_ble_eq_true rfl) dX7_plan_47) ?_
      refine J_aload_n (pc := 50) hX 1 rfl dX7_plan_50 ?_
      refine J_iload_n (pc := 51) hX 2 rfl dX7_plan_51 ?_
      refine J_iload_n (pc := 52) hX 3 rfl dX7_plan_52 ?_
      refine J_call1 (fun I8 e9 => ?_)
      refine jrun_v (pc := 53) (jRunV hX s_X7_236 (ci := 7) (T := TX7) (N := 20) (As := [ji p0, ji p1]) (rest := []) rfl (by decide) (C_X7_readsRow Y hz0 t0 ht0 p0 p1 I6 L0 I8 e9) ht0 rfl rfl ⟨by decide, by decide⟩ ⟨Nat.le_of_ble_eq_true rfl, Nat.le_of_ble_eq_true rfl⟩ (Nat.le_of_ble_eq_true rfl) dX7_plan_53) ?_
      refine J_aload_n (pc := 56) hX 1 rfl dX7_plan_56 ?_
      refine g_X7_16 (pc := 57) hX ht0 dX7_plan_57 ?_
      refine J_aload_n (pc := 60) hX 1 rfl dX7_plan_60 ?_
      refine g_X7_7 (pc := 61) hX ht0 dX7_plan_61 ?_
      refine J_call1 (fun I10 e11 => ?_)
      refine jrun_v (pc := 64) (jRunS hX s_X7_217 (As := [jr (rfC t0 2), jr (rfC t0 0)]) (rest := []) (C_X7_pours Y hz0 (rfC t0 2) (fs_7_2 t0 ht0) (rfC t0 0) (fs_7_0 t0 ht0) I8 L0 I10 e11) rfl rfl ⟨by decide, by decide⟩ ⟨Nat.le_of_ble_eq_true rfl, Nat.le_of_ble_eq_true rfl⟩ (Nat.le_of_ble_eq_true rfl) dX7_plan_64) ?_
      refine J_iload_n (pc := 67) hX 4 rfl dX7_plan_67 ?_
      refine J_if_ne (pc := 68) hX (tgt := 78) (by decide) dX7_plan_68 (fun h12 => ?_) (fun h12 => ?_)
      · refine J_iload_n (pc := 78) hX 4 rfl dX7_plan_78 ?_
        refine J_iconst (pc := 79) hX (v := (1 : Int32)) (by decide) dX7_plan_79 ?_
        refine J_icmp_ne (pc := 80) hX (tgt := 90) (by decide) dX7_plan_80 (fun h13 => ?_) (fun h13 => ?_)
        · refine J_aload_n (pc := 90) hX 1 rfl dX7_plan_90 ?_
          refine g_X7_230 (pc := 91) hX ht0 dX7_plan_91 ?_
          exact J_iret (pc := 94) hX (hQ _) dX7_plan_94
        · refine J_aload_n (pc := 83) hX 1 rfl dX7_plan_83 ?_
          refine g_X7_227 (pc := 84) hX ht0 dX7_plan_84 ?_
          refine J_goto (pc := 87) hX (tgt := 94) (by decide) dX7_plan_87 ?_
          exact J_iret (pc := 94) hX (hQ _) dX7_plan_94
      · refine J_aload_n (pc := 71) hX 1 rfl dX7_plan_71 ?_
        refine g_X7_224 (pc := 72) hX ht0 dX7_plan_72 ?_
        refine J_goto (pc := 75) hX (tgt := 94) (by decide) dX7_plan_75 ?_
        exact J_iret (pc := 94) hX (hQ _) dX7_plan_94
    · refine J_aload_n (pc := 32) hX 1 rfl dX7_plan_32 ?_
      refine J_iload (pc := 33) hX 0 rfl dX7_plan_33 ?_
      refine J_call2 (fun y14 I15 e16 => ?_)
      refine jrun_i (pc := 35) (jRunV hX s_X7_127 (ci := 7) (T := TX7) (N := 20) (As := [ji v3]) (rest := []) rfl (by decide) (C_X7_refuses Y hz0 t0 ht0 v3 I0 L0 y14 I15 e16) ht0 rfl rfl ⟨by decide, by decide⟩ ⟨Nat.le_of_ble_eq_true rfl, Nat.le_of_ble_eq_true rfl⟩ (Nat.le_of_ble_eq_true rfl) dX7_plan_35) ?_
      exact J_iret (pc := 38) hX (hQ _) dX7_plan_38
  refine J_if_eq (pc := 9) hX (tgt := 23) (by decide) dX7_plan_9 (fun h17 => ?_) (fun h17 => ?_)
  · refine J_bipush (pc := 23) hX (v := (-52 : Int32)) (by decide) dX7_plan_23 ?_
    exact hk4 (-52 : Int32)
  · refine J_aload_n (pc := 12) hX 0 rfl dX7_plan_12 ?_
    refine J_iload_n (pc := 13) hX 1 rfl dX7_plan_13 ?_
    refine J_iload_n (pc := 14) hX 2 rfl dX7_plan_14 ?_
    refine J_bipush (pc := 15) hX (v := (40 : Int32)) (by decide) dX7_plan_15 ?_
    refine J_call1 (fun y18 e19 => ?_)
    refine jrun_i (pc := 17) (jRunV hX s_X7_233 (ci := 7) (T := TX7) (N := 20) (As := [ji p0, ji p1, ji (40 : Int32)]) (rest := []) rfl (by decide) (C_X7_wrongRow Y hz0 t0 ht0 p0 p1 (40 : Int32) I0 L0 y18 e19) ht0 rfl rfl ⟨by decide, by decide⟩ ⟨Nat.le_of_ble_eq_true rfl, Nat.le_of_ble_eq_true rfl⟩ (Nat.le_of_ble_eq_true rfl) dX7_plan_17) ?_
    refine J_goto (pc := 20) hX (tgt := 25) (by decide) dX7_plan_20 ?_
    exact hk4 y18
theorem C_X7_plan (Y : jY) (hz0 : Y.zf = false) (t0 : Nat) (ht0 : shC t0 = 8) (p0 : Int32) (p1 : Int32) (p2 : Int32) (I0 : jI) (L0 : jL) (r : Int32) (I1 : jI) (h : X7_plan t0 p0 p1 p2 I0 L0 = some (r, I1)) : jMet Y yX7_plan cX7_plan 5 (some .int) 49 2270 0 0 [jr t0, ji p0, ji p1, ji p2] NC shC rfC I0 L0 (some (ji r)) NC shC rfC I1 L0 :=
  jmet_of _ _ h (fun Z r => jQ Y Z 0 0 (some (ji r.1)) NC shC rfC r.2 L0) (fun _ => rfl) (by decide) (Nat.le_of_ble_eq_true rfl) (fun Z hX => W_X7_plan hz0 t0 ht0 p0 p1 p2 I0 L0 hX (fun _ => rfl))
def X7_costWith (t0 : Nat) (p0 : Int32) (p1 : Int32) (p2 : Int32) (p3 : Int32) (I0 : jI) (L0 : jL) : Option (Int32 × jI) :=
(X7_pours (rfC t0 0) (rfC t0 2) I0).bind (fun (I1 : jI) =>
(X7_sweepsOut t0 I1).bind (fun (I3 : jI) =>
if jin p2 784 then jlet (jup I3 (rfC t0 0) (p2).toNatClampNeg p3) (fun (I6 : jI) =>
(X7_readsRow t0 p0 p1 I6 L0).bind (fun (I7 : jI) =>
(X7_pours (rfC t0 2) (rfC t0 0) I7).bind (fun (I9 : jI) =>
some ((I9 t0 16), I9)))) else none))
set_option maxRecDepth 20000 in
set_option maxHeartbeats 4000000 in
theorem W_X7_costWith {Y : jY} {Z : jZ} {Qf : Int32 × jI → State → Prop} (hz0 : Y.zf = false) (t0 : Nat) (ht0 : shC t0 = 8) (p0 : Int32) (p1 : Int32) (p2 : Int32) (p3 : Int32) (I0 : jI) (L0 : jL) (hX : jOK Y Z RX7 cX7_costWith 5 "costWith" (some .int) 49 2270 0 0) (hQ : ∀ r : Int32 × jI, Qf r = jQ Y Z 0 0 (some (ji r.1)) NC shC rfC r.2 L0) : J Y Z 5 Qf (X7_costWith t0 p0 p1 p2 p3 I0 L0) 0 [(0, jr t0), (1, ji p0), (2, ji p1), (3, ji p2), (4, ji p3)] [] 0 0 NC shC rfC I0 L0 := by
  unfold X7_costWith
  refine J_aload_n (pc := 0) hX 0 rfl dX7_costWith_0 ?_
  refine g_X7_7 (pc := 1) hX ht0 dX7_costWith_1 ?_
  refine J_aload_n (pc := 4) hX 0 rfl dX7_costWith_4 ?_
  refine g_X7_16 (pc := 5) hX ht0 dX7_costWith_5 ?_
  refine J_call1 (fun I1 e2 => ?_)
  refine jrun_v (pc := 8) (jRunS hX s_X7_217 (As := [jr (rfC t0 0), jr (rfC t0 2)]) (rest := []) (C_X7_pours Y hz0 (rfC t0 0) (fs_7_0 t0 ht0) (rfC t0 2) (fs_7_2 t0 ht0) I0 L0 I1 e2) rfl rfl ⟨by decide, by decide⟩ ⟨Nat.le_of_ble_eq_true rfl, Nat.le_of_ble_eq_true rfl⟩ (Nat.le_of_ble_eq_true rfl) dX7_costWith_8) ?_
  refine J_aload_n (pc := 11) hX 0 rfl dX7_costWith_11 ?_
  refine J_call1 (fun I3 e4 => ?_)
  refine jrun_v (pc := 12) (jRunV hX s_X7_130 (ci := 7) (T := TX7) (N := 20) (As := []) (rest := []) rfl (by decide) (C_X7_sweepsOut Y hz0 t0 ht0 I1 L0 I3 e4) ht0 rfl rfl ⟨by decide, by decide⟩ ⟨Nat.le_of_ble_eq_true rfl, Nat.le_of_ble_eq_true rfl⟩ (Nat.le_of_ble_eq_true rfl) dX7_costWith_12) ?_
  refine J_aload_n (pc := 15) hX 0 rfl dX7_costWith_15 ?_
  refine g_X7_7 (pc := 16) hX ht0 dX7_costWith_16 ?_
  refine J_iload_n (pc := 19) hX 3 rfl dX7_costWith_19 ?_
  refine J_iload (pc := 20) hX 4 rfl dX7_costWith_20 ?_
  refine J_iast (pc := 22) hX (N := 784) (fs_7_0 t0 ht0) (by decide) dX7_costWith_22 (fun h5 I6 => ?_)
  refine J_aload_n (pc := 23) hX 0 rfl dX7_costWith_23 ?_
  refine J_iload_n (pc := 24) hX 1 rfl dX7_costWith_24 ?_
  refine J_iload_n (pc := 25) hX 2 rfl dX7_costWith_25 ?_
  refine J_call1 (fun I7 e8 => ?_)
  refine jrun_v (pc := 26) (jRunV hX s_X7_236 (ci := 7) (T := TX7) (N := 20) (As := [ji p0, ji p1]) (rest := []) rfl (by decide) (C_X7_readsRow Y hz0 t0 ht0 p0 p1 I6 L0 I7 e8) ht0 rfl rfl ⟨by decide, by decide⟩ ⟨Nat.le_of_ble_eq_true rfl, Nat.le_of_ble_eq_true rfl⟩ (Nat.le_of_ble_eq_true rfl) dX7_costWith_26) ?_
  refine J_aload_n (pc := 29) hX 0 rfl dX7_costWith_29 ?_
  refine g_X7_16 (pc := 30) hX ht0 dX7_costWith_30 ?_
  refine J_aload_n (pc := 33) hX 0 rfl dX7_costWith_33 ?_
  refine g_X7_7 (pc := 34) hX ht0 dX7_costWith_34 ?_
  refine J_call1 (fun I9 e10 => ?_)
  refine jrun_v (pc := 37) (jRunS hX s_X7_217 (As := [jr (rfC t0 2), jr (rfC t0 0)]) (rest := []) (C_X7_pours Y hz0 (rfC t0 2) (fs_7_2 t0 ht0) (rfC t0 0) (fs_7_0 t0 ht0) I7 L0 I9 e10) rfl rfl ⟨by decide, by decide⟩ ⟨Nat.le_of_ble_eq_true rfl, Nat.le_of_ble_eq_true rfl⟩ (Nat.le_of_ble_eq_true rfl) dX7_costWith_37) ?_
  refine J_aload_n (pc := 40) hX 0 rfl dX7_costWith_40 ?_
  refine g_X7_224 (pc := 41) hX ht0 dX7_costWith_41 ?_
  exact J_iret (pc := 44) hX (hQ _) dX7_costWith_44
theorem C_X7_costWith (Y : jY) (hz0 : Y.zf = false) (t0 : Nat) (ht0 : shC t0 = 8) (p0 : Int32) (p1 : Int32) (p2 : Int32) (p3 : Int32) (I0 : jI) (L0 : jL) (r : Int32) (I1 : jI) (h : X7_costWith t0 p0 p1 p2 p3 I0 L0 = some (r, I1)) : jMet Y yX7_costWith cX7_costWith 5 (some .int) 49 2270 0 0 [jr t0, ji p0, ji p1, ji p2, ji p3] NC shC rfC I0 L0 (some (ji r)) NC shC rfC I1 L0 :=
  jmet_of _ _ h (fun Z r => jQ Y Z 0 0 (some (ji r.1)) NC shC rfC r.2 L0) (fun _ => rfl) (by decide) (Nat.le_of_ble_eq_true rfl) (fun Z hX => W_X7_costWith hz0 t0 ht0 p0 p1 p2 p3 I0 L0 hX (fun _ => rfl))
def X7_rule_F1 (t0 : Nat) (p0 : Int32) (p1 : Int32) (p2 : Int32) (L0 : jL) (g10 : Int32 → Int32 → Int32 → jI → Option (Int32 × jI)) : Int32 → Int32 → Int32 → jI → Option (Int32 × jI) := fun (v6 : Int32) (v7 : Int32) (v8 : Int32) (I9 : jI) =>
if (9 : Int32) ≤ v8 then (
some (v6, I9))
else (
(X7_at (p0 - (1 : Int32)) (2 : Int32)).bind (fun (y12 : Int32) =>
jb2 (X7_costWith t0 p1 p2 y12 v8 I9 L0) (fun (y14 : Int32) (I15 : jI) =>
jlet (if v7 ≤ y14 then v6 else v8) (fun (y18 : Int32) =>
jlet ((jmin v7 y14)) (fun (y19 : Int32) =>
g10 y18 y19 (v8 + (1 : Int32)) I15)))))
def X7_rule (t0 : Nat) (p0 : Int32) (p1 : Int32) (p2 : Int32) (I0 : jI) (L0 : jL) : Option (Int32 × jI) :=
(X7_isLevel t0 p0 I0).bind (fun (y1 : Int32) =>
jlet (fun (v3 : Int32) =>
if v3 = 0 then (
jfx (X7_rule_F1 t0 p0 p1 p2 L0) (fun _ _ _ _ => none) 1000 (3 : Int32) (2147483647 : Int32) (3 : Int32) I0)
else (
jb2 (X7_refuses t0 v3 I0) (fun (y20 : Int32) (I21 : jI) =>
some (y20, I21)))) (fun (k4 : Int32 → Option (Int32 × jI)) =>
if y1 = 0 then (
k4 (-52 : Int32))
else (
(X7_wrongRow t0 p1 p2 (40 : Int32) I0 L0).bind (fun (y24 : Int32) =>
k4 y24))))
set_option maxRecDepth 20000 in
set_option maxHeartbeats 4000000 in
theorem W_X7_rule {Y : jY} {Z : jZ} {Qf : Int32 × jI → State → Prop} (hz0 : Y.zf = false) (t0 : Nat) (ht0 : shC t0 = 8) (p0 : Int32) (p1 : Int32) (p2 : Int32) (I0 : jI) (L0 : jL) (hX : jOK Y Z RX7 cX7_rule 9 "rule" (some .int) 50 2294 0 0) (hQ : ∀ r : Int32 × jI, Qf r = jQ Y Z 0 0 (some (ji r.1)) NC shC rfC r.2 L0) : J Y Z 9 Qf (X7_rule t0 p0 p1 p2 I0 L0) 0 [(0, jr t0), (1, ji p0), (2, ji p1), (3, ji p2)] [] 0 0 NC shC rfC I0 L0 := by
  unfold X7_rule
  refine J_aload_n (pc := 0) hX 0 rfl dX7_rule_0 ?_
  refine J_iload_n (pc := 1) hX 1 rfl dX7_rule_1 ?_
  refine J_call1 (fun y1 e2 => ?_)
  refine jrun_i (pc := 2) (jRunV hX s_X7_147 (ci := 7) (T := TX7) (N := 20) (As := [ji p0]) (rest := []) rfl (by decide) (C_X7_isLevel Y hz0 t0 ht0 p0 I0 L0 y1 e2) ht0 rfl rfl ⟨by decide, by decide⟩ ⟨Nat.le_of_ble_eq_true rfl, Nat.le_of_ble_eq_true rfl⟩ (Nat.le_of_ble_eq_true rfl) dX7_rule_2) ?_
  refine J_join (fun (k4 : Int32 → Option (Int32 × jI)) => ∀ (v3 : Int32), J Y Z 9 Qf (k4 v3) 21 [(0, jr t0), (1, ji p0), (2, ji p1), (3, ji p2)] [ji v3] 0 0 NC shC rfC I0 L0) ?_ (fun k4 hk4 => ?_)
  · intro v3
    try dsimp only
    refine J_istore (pc := 21) hX (lo' := [(4, ji v3), (0, jr t0), (1, ji p0), (2, ji p1), (3, ji p2)]) (by decide) rfl dX7_rule_21 ?_
    refine J_iload (pc := 23) hX 0 rfl dX7_rule_23 ?_
    refine J_if_eq (pc := 25) hX (tgt := 35) (by decide) dX7_rule_25 (fun h5 => ?_) (fun h5 => ?_)
    · refine J_iconst (pc := 35) hX (v := (3 : Int32)) (by decide) dX7_rule_35 ?_
      refine J_istore (pc := 36) hX (lo' := [(5, ji (3 : Int32)), (4, ji v3), (0, jr t0), (1, ji p0), (2, ji p1), (3, ji p2)]) (by decide) rfl dX7_rule_36 ?_
      refine J_ldc (pc := 38) hX q_X7_241 dX7_rule_38 ?_
      refine J_istore (pc := 40) hX (lo' := [(6, ji (2147483647 : Int32)), (5, ji (3 : Int32)), (4, ji v3), (0, jr t0), (1, ji p0), (2, ji p1), (3, ji p2)]) (by decide) rfl dX7_rule_40 ?_
      refine J_iconst (pc := 42) hX (v := (3 : Int32)) (by decide) dX7_rule_42 ?_
      refine J_istore (pc := 43) hX (lo' := [(7, ji (3 : Int32)), (6, ji (2147483647 : Int32)), (5, ji (3 : Int32)), (4, ji v3), (0, jr t0), (1, ji p0), (2, ji p1), (3, ji p2)]) (by decide) rfl dX7_rule_43 ?_
      have lhg10 : ∀ mq : Nat, ∀ (v6 : Int32) (v7 : Int32) (v8 : Int32) (I9 : jI), J Y Z 9 Qf (jfx (X7_rule_F1 t0 p0 p1 p2 L0) (fun _ _ _ _ => none) mq v6 v7 v8 I9) 45 [(0, jr t0), (1, ji p0), (2, ji p1), (3, ji p2), (5, ji v6), (6, ji v7), (7, ji v8)] [] 0 0 NC shC rfC I9 L0 := by
        intro mq
        refine jfx_J (fun (_ : Nat) (g10 : Int32 → Int32 → Int32 → jI → Option (Int32 × jI)) => ∀ (v6 : Int32) (v7 : Int32) (v8 : Int32) (I9 : jI), J Y Z 9 Qf (g10 v6 v7 v8 I9) 45 [(0, jr t0), (1, ji p0), (2, ji p1), (3, ji p2), (5, ji v6), (6, ji v7), (7, ji v8)] [] 0 0 NC shC rfC I9 L0) ?_ (fun _ g10 hg10 => ?_) mq
        · intro v6 v7 v8 I9
          exact J_none
        intro v6 v7 v8 I9
        unfold X7_rule_F1
        try dsimp only
        refine J_iload (pc := 45) hX 6 rfl dX7_rule_45 ?_
        refine J_bipush (pc := 47) hX (v := (9 : Int32)) (by decide) dX7_rule_47 ?_
        refine J_icmp_ge (pc := 49) hX (tgt := 100) (by decide) dX7_rule_49 (fun h11 => ?_) (fun h11 => ?_)
        · refine J_iload (pc := 100) hX 4 rfl dX7_rule_100 ?_
          exact J_iret (pc := 102) hX (hQ _) dX7_rule_102
        · refine J_aload_n (pc := 52) hX 0 rfl dX7_rule_52 ?_
          refine J_iload_n (pc := 53) hX 2 rfl dX7_rule_53 ?_
          refine J_iload_n (pc := 54) hX 3 rfl dX7_rule_54 ?_
          refine J_iload_n (pc := 55) hX 1 rfl dX7_rule_55 ?_
          refine J_iconst (pc := 56) hX (v := (1 : Int32)) (by decide) dX7_rule_56 ?_
          refine J_isub (pc := 57) hX dX7_rule_57 ?_
          refine J_iconst (pc := 58) hX (v := (2 : Int32)) (by decide) dX7_rule_58 ?_
          refine J_call1 (fun y12 e13 => ?_)
          refine jrun_i (pc := 59) (jRunS hX s_X7_51 (As := [ji (p0 - (1 : Int32)), ji (2 : Int32)]) (rest := [ji p2, ji p1, jr t0]) (C_X7_at Y hz0 (p0 - (1 : Int32)) (2 : Int32) I9 L0 y12 e13) rfl rfl ⟨by decide, by decide⟩ ⟨Nat.le_of_ble_eq_true rfl, Nat.le_of_ble_eq_true rfl⟩ (Nat.le_of_ble_eq_true rfl) dX7_rule_59) ?_
          refine J_iload (pc := 62) hX 6 rfl dX7_rule_62 ?_
          refine J_call2 (fun y14 I15 e16 => ?_)
          refine jrun_i (pc := 64) (jRunV hX s_X7_242 (ci := 7) (T := TX7) (N := 20) (As := [ji p1, ji p2, ji y12, ji v8]) (rest := []) rfl (by decide) (C_X7_costWith Y hz0 t0 ht0 p1 p2 y12 v8 I9 L0 y14 I15 e16) ht0 rfl rfl ⟨by decide, by decide⟩ ⟨Nat.le_of_ble_eq_true rfl, Nat.le_of_ble_eq_true rfl⟩ (Nat.le_of_ble_eq_true rfl) dX7_rule_64) ?_
          refine J_istore (pc := 67) hX (lo' := [(8, ji y14), (0, jr t0), (1, ji p0), (2, ji p1), (3, ji p2), (5, ji v6), (6, ji v7), (7, ji v8)]) (by decide) rfl dX7_rule_67 ?_
          refine J_iload (pc := 69) hX 0 rfl dX7_rule_69 ?_
          refine J_iload (pc := 71) hX 6 rfl dX7_rule_71 ?_
          refine J_vjoin (fun kq (y18 : Int32) => J Y Z 9 Qf (kq) 83 [(8, ji y14), (0, jr t0), (1, ji p0), (2, ji p1), (3, ji p2), (5, ji v6), (6, ji v7), (7, ji v8)] [ji y18] 0 0 NC shC rfC I15 L0) (fun y18 => ?_) (fun hj => ?_)
          · try dsimp only
            refine J_istore (pc := 83) hX (lo' := [(5, ji y18), (8, ji y14), (0, jr t0), (1, ji p0), (2, ji p1), (3, ji p2), (6, ji v7), (7, ji v8)]) (by decide) rfl dX7_rule_83 ?_
            refine J_iload (pc := 85) hX 6 rfl dX7_rule_85 ?_
            refine J_iload (pc := 87) hX 1 rfl dX7_rule_87 ?_
            refine J_mmin (pc := 89) hX m_X7_105 ⟨by decide, by decide⟩ ⟨Nat.le_of_ble_eq_true rfl, Nat.le_of_ble_eq_true rfl⟩ (Nat.le_of_ble_eq_true rfl) dX7_rule_89 ?_
            refine J_leti (fun y19 => ?_)
            refine J_istore (pc := 92) hX (lo' := [(6, ji y19), (5, ji y18), (8, ji y14), (0, jr t0), (1, ji p0), (2, ji p1), (3, ji p2), (7, ji v8)]) (by decide) rfl dX7_rule_92 ?_
            refine J_iinc (pc := 94) hX (v := (v8 + (1 : Int32))) (lo' := [(7, ji (v8 + (1 : Int32))), (6, ji y19), (5, ji y18), (8, ji y14), (0, jr t0), (1, ji p0), (2, ji p1), (3, ji p2)]) 7 rfl (by rfl) (by decide) rfl dX7_rule_94 ?_
            refine J_goto (pc := 97) hX (tgt := 45) (by decide) dX7_rule_97 ?_
            refine J_sub [4, 5, 6, 7, 2, 1, 0] rfl ?_
            exact hg10 y18 y19 (v8 + (1 : Int32)) I15
          try dsimp only at hj
          refine J_icmp_geV (pc := 73) hX (tgt := 81) (by decide) dX7_rule_73 (fun h17 => ?_) (fun h17 => ?_)
          · refine J_iload (pc := 81) hX 5 rfl dX7_rule_81 ?_
            exact hj _
          · refine J_iload (pc := 76) hX 7 rfl dX7_rule_76 ?_
            refine J_goto (pc := 78) hX (tgt := 83) (by decide) dX7_rule_78 ?_
            exact hj _
      refine J_sub [4, 5, 6, 7, 2, 1, 0] rfl ?_
      exact lhg10 1000 (3 : Int32) (2147483647 : Int32) (3 : Int32) I0
    · refine J_aload_n (pc := 28) hX 1 rfl dX7_rule_28 ?_
      refine J_iload (pc := 29) hX 0 rfl dX7_rule_29 ?_
      refine J_call2 (fun y20 I21 e22 => ?_)
      refine jrun_i (pc := 31) (jRunV hX s_X7_127 (ci := 7) (T := TX7) (N := 20) (As := [ji v3]) (rest := []) rfl (by decide) (C_X7_refuses Y hz0 t0 ht0 v3 I0 L0 y20 I21 e22) ht0 rfl rfl ⟨by decide, by decide⟩ ⟨Nat.le_of_ble_eq_true rfl, Nat.le_of_ble_eq_true rfl⟩ (Nat.le_of_ble_eq_true rfl) dX7_rule_31) ?_
      exact J_iret (pc := 34) hX (hQ _) dX7_rule_34
  refine J_if_eq (pc := 5) hX (tgt := 19) (by decide) dX7_rule_5 (fun h23 => ?_) (fun h23 => ?_)
  · refine J_bipush (pc := 19) hX (v := (-52 : Int32)) (by decide) dX7_rule_19 ?_
    exact hk4 (-52 : Int32)
  · refine J_aload_n (pc := 8) hX 0 rfl dX7_rule_8 ?_
    refine J_iload_n (pc := 9) hX 2 rfl dX7_rule_9 ?_
    refine J_iload_n (pc := 10) hX 3 rfl dX7_rule_10 ?_
    refine J_bipush (pc := 11) hX (v := (40 : Int32)) (by decide) dX7_rule_11 ?_
    refine J_call1 (fun y24 e25 => ?_)
    refine jrun_i (pc := 13) (jRunV hX s_X7_233 (ci := 7) (T := TX7) (N := 20) (As := [ji p1, ji p2, ji (40 : Int32)]) (rest := []) rfl (by decide) (C_X7_wrongRow Y hz0 t0 ht0 p1 p2 (40 : Int32) I0 L0 y24 e25) ht0 rfl rfl ⟨by decide, by decide⟩ ⟨Nat.le_of_ble_eq_true rfl, Nat.le_of_ble_eq_true rfl⟩ (Nat.le_of_ble_eq_true rfl) dX7_rule_13) ?_
    refine J_goto (pc := 16) hX (tgt := 21) (by decide) dX7_rule_16 ?_
    exact hk4 y24
theorem C_X7_rule (Y : jY) (hz0 : Y.zf = false) (t0 : Nat) (ht0 : shC t0 = 8) (p0 : Int32) (p1 : Int32) (p2 : Int32) (I0 : jI) (L0 : jL) (r : Int32) (I1 : jI) (h : X7_rule t0 p0 p1 p2 I0 L0 = some (r, I1)) : jMet Y yX7_rule cX7_rule 9 (some .int) 50 2294 0 0 [jr t0, ji p0, ji p1, ji p2] NC shC rfC I0 L0 (some (ji r)) NC shC rfC I1 L0 :=
  jmet_of _ _ h (fun Z r => jQ Y Z 0 0 (some (ji r.1)) NC shC rfC r.2 L0) (fun _ => rfl) (by decide) (Nat.le_of_ble_eq_true rfl) (fun Z hX => W_X7_rule hz0 t0 ht0 p0 p1 p2 I0 L0 hX (fun _ => rfl))
def X7_size_F1 (t0 : Nat) (p0 : Int32) (p1 : Int32) (p2 : Int32) (p3 : Int32) (L0 : jL) (g8 : Int32 → jI → Option (Int32 × jI)) : Int32 → jI → Option (Int32 × jI) := fun (v6 : Int32) (I7 : jI) =>
if (16 : Int32) < v6 then (
some ((-1 : Int32), I7))
else (
(X7_at (p0 - (1 : Int32)) (0 : Int32)).bind (fun (y10 : Int32) =>
jb2 (X7_costWith t0 p1 p2 y10 v6 I7 L0) (fun (y12 : Int32) (I13 : jI) =>
if p3 < y12 then (
g8 (v6 + (1 : Int32)) I13)
else (
some (v6, I13)))))
def X7_size (t0 : Nat) (p0 : Int32) (p1 : Int32) (p2 : Int32) (p3 : Int32) (I0 : jI) (L0 : jL) : Option (Int32 × jI) :=
(X7_isLevel t0 p0 I0).bind (fun (y1 : Int32) =>
jlet (fun (v3 : Int32) =>
if v3 = 0 then (
jfx (X7_size_F1 t0 p0 p1 p2 p3 L0) (fun _ _ => none) 1000 (1 : Int32) I0)
else (
jb2 (X7_refuses t0 v3 I0) (fun (y16 : Int32) (I17 : jI) =>
some (y16, I17)))) (fun (k4 : Int32 → Option (Int32 × jI)) =>
jlet (
k4 (-52 : Int32)) (fun (k19 : Option (Int32 × jI)) =>
if y1 = 0 then (
k19)
else (
if p3 < 0 then (
k19)
else (
(X7_wrongRow t0 p1 p2 (40 : Int32) I0 L0).bind (fun (y22 : Int32) =>
k4 y22))))))
set_option maxRecDepth 20000 in
set_option maxHeartbeats 4000000 in
theorem W_X7_size {Y : jY} {Z : jZ} {Qf : Int32 × jI → State → Prop} (hz0 : Y.zf = false) (t0 : Nat) (ht0 : shC t0 = 8) (p0 : Int32) (p1 : Int32) (p2 : Int32) (p3 : Int32) (I0 : jI) (L0 : jL) (hX : jOK Y Z RX7 cX7_size 7 "size" (some .int) 50 2294 0 0) (hQ : ∀ r : Int32 × jI, Qf r = jQ Y Z 0 0 (some (ji r.1)) NC shC rfC r.2 L0) : J Y Z 7 Qf (X7_size t0 p0 p1 p2 p3 I0 L0) 0 [(0, jr t0), (1, ji p0), (2, ji p1), (3, ji p2), (4, ji p3)] [] 0 0 NC shC rfC I0 L0 := by
  unfold X7_size
  refine J_aload_n (pc := 0) hX 0 rfl dX7_size_0 ?_
  refine J_iload_n (pc := 1) hX 1 rfl dX7_size_1 ?_
  refine J_call1 (fun y1 e2 => ?_)
  refine jrun_i (pc := 2) (jRunV hX s_X7_147 (ci := 7) (T := TX7) (N := 20) (As := [ji p0]) (rest := []) rfl (by decide) (C_X7_isLevel Y hz0 t0 ht0 p0 I0 L0 y1 e2) ht0 rfl rfl ⟨by decide, by decide⟩ ⟨Nat.le_of_ble_eq_true rfl, Nat.le_of_ble_eq_true rfl⟩ (Nat.le_of_ble_eq_true rfl) dX7_size_2) ?_
  refine J_join (fun (k4 : Int32 → Option (Int32 × jI)) => ∀ (v3 : Int32), J Y Z 7 Qf (k4 v3) 26 [(0, jr t0), (1, ji p0), (2, ji p1), (3, ji p2), (4, ji p3)] [ji v3] 0 0 NC shC rfC I0 L0) ?_ (fun k4 hk4 => ?_)
  · intro v3
    try dsimp only
    refine J_istore (pc := 26) hX (lo' := [(5, ji v3), (0, jr t0), (1, ji p0), (2, ji p1), (3, ji p2), (4, ji p3)]) (by decide) rfl dX7_size_26 ?_
    refine J_iload (pc := 28) hX 0 rfl dX7_size_28 ?_
    refine J_if_eq (pc := 30) hX (tgt := 40) (by decide) dX7_size_30 (fun h5 => ?_) (fun h5 => ?_)
    · refine J_iconst (pc := 40) hX (v := (1 : Int32)) (by decide) dX7_size_40 ?_
      refine J_istore (pc := 41) hX (lo' := [(6, ji (1 : Int32)), (5, ji v3), (0, jr t0), (1, ji p0), (2, ji p1), (3, ji p2), (4, ji p3)]) (by decide) rfl dX7_size_41 ?_
      have lhg8 : ∀ mq : Nat, ∀ (v6 : Int32) (I7 : jI), J Y Z 7 Qf (jfx (X7_size_F1 t0 p0 p1 p2 p3 L0) (fun _ _ => none) mq v6 I7) 43 [(0, jr t0), (1, ji p0), (2, ji p1), (3, ji p2), (4, ji p3), (6, ji v6)] [] 0 0 NC shC rfC I7 L0 := by
        intro mq
        refine jfx_J (fun (_ : Nat) (g8 : Int32 → jI → Option (Int32 × jI)) => ∀ (v6 : Int32) (I7 : jI), J Y Z 7 Qf (g8 v6 I7) 43 [(0, jr t0), (1, ji p0), (2, ji p1), (3, ji p2), (4, ji p3), (6, ji v6)] [] 0 0 NC shC rfC I7 L0) ?_ (fun _ g8 hg8 => ?_) mq
        · intro v6 I7
          exact J_none
        intro v6 I7
        unfold X7_size_F1
        try dsimp only
        refine J_iload (pc := 43) hX 5 rfl dX7_size_43 ?_
        refine J_bipush (pc := 45) hX (v := (16 : Int32)) (by decide) dX7_size_45 ?_
        refine J_icmp_gt (pc := 47) hX (tgt := 79) (by decide) dX7_size_47 (fun h9 => ?_) (fun h9 => ?_)
        · refine J_iconst (pc := 79) hX (v := (-1 : Int32)) (by decide) dX7_size_79 ?_
          exact J_iret (pc := 80) hX (hQ _) dX7_size_80
        · refine J_aload_n (pc := 50) hX 0 rfl dX7_size_50 ?_
          refine J_iload_n (pc := 51) hX 2 rfl dX7_size_51 ?_
          refine J_iload_n (pc := 52) hX 3 rfl dX7_size_52 ?_
          refine J_iload_n (pc := 53) hX 1 rfl dX7_size_53 ?_
          refine J_iconst (pc := 54) hX (v := (1 : Int32)) (by decide) dX7_size_54 ?_
          refine J_isub (pc := 55) hX dX7_size_55 ?_
          refine J_iconst (pc := 56) hX (v := (0 : Int32)) (by decide) dX7_size_56 ?_
          refine J_call1 (fun y10 e11 => ?_)
          refine jrun_i (pc := 57) (jRunS hX s_X7_51 (As := [ji (p0 - (1 : Int32)), ji (0 : Int32)]) (rest := [ji p2, ji p1, jr t0]) (C_X7_at Y hz0 (p0 - (1 : Int32)) (0 : Int32) I7 L0 y10 e11) rfl rfl ⟨by decide, by decide⟩ ⟨Nat.le_of_ble_eq_true rfl, Nat.le_of_ble_eq_true rfl⟩ (Nat.le_of_ble_eq_true rfl) dX7_size_57) ?_
          refine J_iload (pc := 60) hX 5 rfl dX7_size_60 ?_
          refine J_call2 (fun y12 I13 e14 => ?_)
          refine jrun_i (pc := 62) (jRunV hX s_X7_242 (ci := 7) (T := TX7) (N := 20) (As := [ji p1, ji p2, ji y10, ji v6]) (rest := []) rfl (by decide) (C_X7_costWith Y hz0 t0 ht0 p1 p2 y10 v6 I7 L0 y12 I13 e14) ht0 rfl rfl ⟨by decide, by decide⟩ ⟨Nat.le_of_ble_eq_true rfl, Nat.le_of_ble_eq_true rfl⟩ (Nat.le_of_ble_eq_true rfl) dX7_size_62) ?_
          refine J_iload (pc := 65) hX 4 rfl dX7_size_65 ?_
          refine J_icmp_gt (pc := 67) hX (tgt := 73) (by decide) dX7_size_67 (fun h15 => ?_) (fun h15 => ?_)
          · refine J_iinc (pc := 73) hX (v := (v6 + (1 : Int32))) (lo' := [(6, ji (v6 + (1 : Int32))), (0, jr t0), (1, ji p0), (2, ji p1), (3, ji p2), (4, ji p3)]) 5 rfl (by rfl) (by decide) rfl dX7_size_73 ?_
            refine J_goto (pc := 76) hX (tgt := 43) (by decide) dX7_size_76 ?_
            refine J_sub [1, 2, 3, 4, 5, 0] rfl ?_
            exact hg8 (v6 + (1 : Int32)) I13
          · refine J_iload (pc := 70) hX 5 rfl dX7_size_70 ?_
            exact J_iret (pc := 72) hX (hQ _) dX7_size_72
      refine J_sub [2, 3, 4, 5, 6, 0] rfl ?_
      exact lhg8 1000 (1 : Int32) I0
    · refine J_aload_n (pc := 33) hX 1 rfl dX7_size_33 ?_
      refine J_iload (pc := 34) hX 0 rfl dX7_size_34 ?_
      refine J_call2 (fun y16 I17 e18 => ?_)
      refine jrun_i (pc := 36) (jRunV hX s_X7_127 (ci := 7) (T := TX7) (N := 20) (As := [ji v3]) (rest := []) rfl (by decide) (C_X7_refuses Y hz0 t0 ht0 v3 I0 L0 y16 I17 e18) ht0 rfl rfl ⟨by decide, by decide⟩ ⟨Nat.le_of_ble_eq_true rfl, Nat.le_of_ble_eq_true rfl⟩ (Nat.le_of_ble_eq_true rfl) dX7_size_36) ?_
      exact J_iret (pc := 39) hX (hQ _) dX7_size_39
  refine J_join (fun (k19 : Option (Int32 × jI)) => J Y Z 7 Qf (k19) 24 [(0, jr t0), (1, ji p0), (2, ji p1), (3, ji p2), (4, ji p3)] [] 0 0 NC shC rfC I0 L0) ?_ (fun k19 hk19 => ?_)
  · refine J_bipush (pc := 24) hX (v := (-52 : Int32)) (by decide) dX7_size_24 ?_
    exact hk4 (-52 : Int32)
  refine J_if_eq (pc := 5) hX (tgt := 24) (by decide) dX7_size_5 (fun h20 => ?_) (fun h20 => ?_)
  · exact hk19
  · refine J_iload (pc := 8) hX 4 rfl dX7_size_8 ?_
    refine J_if_lt (pc := 10) hX (tgt := 24) (by decide) dX7_size_10 (fun h21 => ?_) (fun h21 => ?_)
    · exact hk19
    · refine J_aload_n (pc := 13) hX 0 rfl dX7_size_13 ?_
      refine J_iload_n (pc := 14) hX 2 rfl dX7_size_14 ?_
      refine J_iload_n (pc := 15) hX 3 rfl dX7_size_15 ?_
      refine J_bipush (pc := 16) hX (v := (40 : Int32)) (by decide) dX7_size_16 ?_
      refine J_call1 (fun y22 e23 => ?_)
      refine jrun_i (pc := 18) (jRunV hX s_X7_233 (ci := 7) (T := TX7) (N := 20) (As := [ji p1, ji p2, ji (40 : Int32)]) (rest := []) rfl (by decide) (C_X7_wrongRow Y hz0 t0 ht0 p1 p2 (40 : Int32) I0 L0 y22 e23) ht0 rfl rfl ⟨by decide, by decide⟩ ⟨Nat.le_of_ble_eq_true rfl, Nat.le_of_ble_eq_true rfl⟩ (Nat.le_of_ble_eq_true rfl) dX7_size_18) ?_
      refine J_goto (pc := 21) hX (tgt := 26) (by decide) dX7_size_21 ?_
      exact hk4 y22
theorem C_X7_size (Y : jY) (hz0 : Y.zf = false) (t0 : Nat) (ht0 : shC t0 = 8) (p0 : Int32) (p1 : Int32) (p2 : Int32) (p3 : Int32) (I0 : jI) (L0 : jL) (r : Int32) (I1 : jI) (h : X7_size t0 p0 p1 p2 p3 I0 L0 = some (r, I1)) : jMet Y yX7_size cX7_size 7 (some .int) 50 2294 0 0 [jr t0, ji p0, ji p1, ji p2, ji p3] NC shC rfC I0 L0 (some (ji r)) NC shC rfC I1 L0 :=
  jmet_of _ _ h (fun Z r => jQ Y Z 0 0 (some (ji r.1)) NC shC rfC r.2 L0) (fun _ => rfl) (by decide) (Nat.le_of_ble_eq_true rfl) (fun Z hX => W_X7_size hz0 t0 ht0 p0 p1 p2 p3 I0 L0 hX (fun _ => rfl))
def X7_modes_F1 (t0 : Nat) (p0 : Int32) (p1 : Int32) (L0 : jL) (g8 : Int32 → Int32 → Int32 → jI → Option (Int32 × jI)) : Int32 → Int32 → Int32 → jI → Option (Int32 × jI) := fun (v4 : Int32) (v5 : Int32) (v6 : Int32) (I7 : jI) =>
if (3 : Int32) ≤ v6 then (
some (v4, I7))
else (
jb2 (X7_costWith t0 p0 p1 (689 : Int32) v6 I7 L0) (fun (y10 : Int32) (I11 : jI) =>
jlet (if v5 ≤ y10 then (if y10 = v5 then (v4 ||| ((1 : Int32) <<< (v6 &&& 31))) else v4) else ((1 : Int32) <<< (v6 &&& 31))) (fun (y15 : Int32) =>
jlet ((jmin v5 y10)) (fun (y16 : Int32) =>
g8 y15 y16 (v6 + (1 : Int32)) I11))))
def X7_modes (t0 : Nat) (p0 : Int32) (p1 : Int32) (I0 : jI) (L0 : jL) : Option (Int32 × jI) :=
(X7_wrongRow t0 p0 p1 (40 : Int32) I0 L0).bind (fun (y1 : Int32) =>
if y1 = 0 then (
jfx (X7_modes_F1 t0 p0 p1 L0) (fun _ _ _ _ => none) 1000 (0 : Int32) (2147483647 : Int32) (0 : Int32) I0)
else (
jb2 (X7_refuses t0 y1 I0) (fun (y17 : Int32) (I18 : jI) =>
some (y17, I18))))
set_option maxRecDepth 20000 in
set_option maxHeartbeats 4000000 in
theorem W_X7_modes {Y : jY} {Z : jZ} {Qf : Int32 × jI → State → Prop} (hz0 : Y.zf = false) (t0 : Nat) (ht0 : shC t0 = 8) (p0 : Int32) (p1 : Int32) (I0 : jI) (L0 : jL) (hX : jOK Y Z RX7 cX7_modes 8 "modes" (some .int) 50 2294 0 0) (hQ : ∀ r : Int32 × jI, Qf r = jQ Y Z 0 0 (some (ji r.1)) NC shC rfC r.2 L0) : J Y Z 8 Qf (X7_modes t0 p0 p1 I0 L0) 0 [(0, jr t0), (1, ji p0), (2, ji p1)] [] 0 0 NC shC rfC I0 L0 := by
  unfold X7_modes
  refine J_aload_n (pc := 0) hX 0 rfl dX7_modes_0 ?_
  refine J_iload_n (pc := 1) hX 1 rfl dX7_modes_1 ?_
  refine J_iload_n (pc := 2) hX 2 rfl dX7_modes_2 ?_
  refine J_bipush (pc := 3) hX (v := (40 : Int32)) (by decide) dX7_modes_3 ?_
  refine J_call1 (fun y1 e2 => ?_)
  refine jrun_i (pc := 5) (jRunV hX s_X7_233 (ci := 7) (T := TX7) (N := 20) (As := [ji p0, ji p1, ji (40 : Int32)]) (rest := []) rfl (by decide) (C_X7_wrongRow Y hz0 t0 ht0 p0 p1 (40 : Int32) I0 L0 y1 e2) ht0 rfl rfl ⟨by decide, by decide⟩ ⟨Nat.le_of_ble_eq_true rfl, Nat.le_of_ble_eq_true rfl⟩ (Nat.le_of_ble_eq_true rfl) dX7_modes_5) ?_
  refine J_istore_n (pc := 8) hX (lo' := [(3, ji y1), (0, jr t0), (1, ji p0), (2, ji p1)]) (by decide) rfl dX7_modes_8 ?_
  refine J_iload_n (pc := 9) hX 0 rfl dX7_modes_9 ?_
  refine J_if_eq (pc := 10) hX (tgt := 19) (by decide) dX7_modes_10 (fun h3 => ?_) (fun h3 => ?_)
  · refine J_iconst (pc := 19) hX (v := (0 : Int32)) (by decide) dX7_modes_19 ?_
    refine J_istore (pc := 20) hX (lo' := [(4, ji (0 : Int32)), (3, ji y1), (0, jr t0), (1, ji p0), (2, ji p1)]) (by decide) rfl dX7_modes_20 ?_
    refine J_ldc (pc := 22) hX q_X7_241 dX7_modes_22 ?_
    refine J_istore (pc := 24) hX (lo' := [(5, ji (2147483647 : Int32)), (4, ji (0 : Int32)), (3, ji y1), (0, jr t0), (1, ji p0), (2, ji p1)]) (by decide) rfl dX7_modes_24 ?_
    refine J_iconst (pc := 26) hX (v := (0 : Int32)) (by decide) dX7_modes_26 ?_
    refine J_istore (pc := 27) hX (lo' := [(6, ji (0 : Int32)), (5, ji (2147483647 : Int32)), (4, ji (0 : Int32)), (3, ji y1), (0, jr t0), (1, ji p0), (2, ji p1)]) (by decide) rfl dX7_modes_27 ?_
    have lhg8 : ∀ mq : Nat, ∀ (v4 : Int32) (v5 : Int32) (v6 : Int32) (I7 : jI), J Y Z 8 Qf (jfx (X7_modes_F1 t0 p0 p1 L0) (fun _ _ _ _ => none) mq v4 v5 v6 I7) 29 [(0, jr t0), (1, ji p0), (2, ji p1), (4, ji v4), (5, ji v5), (6, ji v6)] [] 0 0 NC shC rfC I7 L0 := by
      intro mq
      refine jfx_J (fun (_ : Nat) (g8 : Int32 → Int32 → Int32 → jI → Option (Int32 × jI)) => ∀ (v4 : Int32) (v5 : Int32) (v6 : Int32) (I7 : jI), J Y Z 8 Qf (g8 v4 v5 v6 I7) 29 [(0, jr t0), (1, ji p0), (2, ji p1), (4, ji v4), (5, ji v5), (6, ji v6)] [] 0 0 NC shC rfC I7 L0) ?_ (fun _ g8 hg8 => ?_) mq
      · intro v4 v5 v6 I7
        exact J_none
      intro v4 v5 v6 I7
      unfold X7_modes_F1
      try dsimp only
      refine J_iload (pc := 29) hX 5 rfl dX7_modes_29 ?_
      refine J_iconst (pc := 31) hX (v := (3 : Int32)) (by decide) dX7_modes_31 ?_
      refine J_icmp_ge (pc := 32) hX (tgt := 98) (by decide) dX7_modes_32 (fun h9 => ?_) (fun h9 => ?_)
      · refine J_iload (pc := 98) hX 3 rfl dX7_modes_98 ?_
        exact J_iret (pc := 100) hX (hQ _) dX7_modes_100
      · refine J_aload_n (pc := 35) hX 0 rfl dX7_modes_35 ?_
        refine J_iload_n (pc := 36) hX 1 rfl dX7_modes_36 ?_
        refine J_iload_n (pc := 37) hX 2 rfl dX7_modes_37 ?_
        refine J_sipush (pc := 38) hX (v := (689 : Int32)) (by decide) dX7_modes_38 ?_
        refine J_iload (pc := 41) hX 5 rfl dX7_modes_41 ?_
        refine J_call2 (fun y10 I11 e12 => ?_)
        refine jrun_i (pc := 43) (jRunV hX s_X7_242 (ci := 7) (T := TX7) (N := 20) (As := [ji p0, ji p1, ji (689 : Int32), ji v6]) (rest := []) rfl (by decide) (C_X7_costWith Y hz0 t0 ht0 p0 p1 (689 : Int32) v6 I7 L0 y10 I11 e12) ht0 rfl rfl ⟨by decide, by decide⟩ ⟨Nat.le_of_ble_eq_true rfl, Nat.le_of_ble_eq_true rfl⟩ (Nat.le_of_ble_eq_true rfl) dX7_modes_43) ?_
        refine J_istore (pc := 46) hX (lo' := [(7, ji y10), (0, jr t0), (1, ji p0), (2, ji p1), (4, ji v4), (5, ji v5), (6, ji v6)]) (by decide) rfl dX7_modes_46 ?_
        refine J_iload (pc := 48) hX 0 rfl dX7_modes_48 ?_
        refine J_iload (pc := 50) hX 5 rfl dX7_modes_50 ?_
        refine J_vjoin (fun kq (y15 : Int32) => J Y Z 8 Qf (kq) 81 [(7, ji y10), (0, jr t0), (1, ji p0), (2, ji p1), (4, ji v4), (5, ji v5), (6, ji v6)] [ji y15] 0 0 NC shC rfC I11 L0) (fun y15 => ?_) (fun hj => ?_)
        · try dsimp only
          refine J_istore (pc := 81) hX (lo' := [(4, ji y15), (7, ji y10), (0, jr t0), (1, ji p0), (2, ji p1), (5, ji v5), (6, ji v6)]) (by decide) rfl dX7_modes_81 ?_
          refine J_iload (pc := 83) hX 5 rfl dX7_modes_83 ?_
          refine J_iload (pc := 85) hX 1 rfl dX7_modes_85 ?_
          refine J_mmin (pc := 87) hX m_X7_105 ⟨by decide, by decide⟩ ⟨Nat.le_of_ble_eq_true rfl, Nat.le_of_ble_eq_true rfl⟩ (Nat.le_of_ble_eq_true rfl) dX7_modes_87 ?_
          refine J_leti (fun y16 => ?_)
          refine J_istore (pc := 90) hX (lo' := [(5, ji y16), (4, ji y15), (7, ji y10), (0, jr t0), (1, ji p0), (2, ji p1), (6, ji v6)]) (by decide) rfl dX7_modes_90 ?_
          refine J_iinc (pc := 92) hX (v := (v6 + (1 : Int32))) (lo' := [(6, ji (v6 + (1 : Int32))), (5, ji y16), (4, ji y15), (7, ji y10), (0, jr t0), (1, ji p0), (2, ji p1)]) 6 rfl (by rfl) (by decide) rfl dX7_modes_92 ?_
          refine J_goto (pc := 95) hX (tgt := 29) (by decide) dX7_modes_95 ?_
          refine J_sub [4, 5, 6, 2, 1, 0] rfl ?_
          exact hg8 y15 y16 (v6 + (1 : Int32)) I11
        try dsimp only at hj
        refine J_icmp_geV (pc := 52) hX (tgt := 62) (by decide) dX7_modes_52 (fun h14 => ?_) (fun h14 => ?_)
        · refine J_iload (pc := 62) hX 0 rfl dX7_modes_62 ?_
          refine J_iload (pc := 64) hX 5 rfl dX7_modes_64 ?_
          refine J_icmp_neV (pc := 66) hX (tgt := 79) (by decide) dX7_modes_66 (fun h13 => ?_) (fun h13 => ?_)
          · refine J_iload (pc := 79) hX 4 rfl dX7_modes_79 ?_
            exact hj _
          · refine J_iload (pc := 69) hX 4 rfl dX7_modes_69 ?_
            refine J_iconst (pc := 71) hX (v := (1 : Int32)) (by decide) dX7_modes_71 ?_
            refine J_iload (pc := 72) hX 6 rfl dX7_modes_72 ?_
            refine J_ishl (pc := 74) hX dX7_modes_74 ?_
            refine J_ior (pc := 75) hX dX7_modes_75 ?_
            refine J_goto (pc := 76) hX (tgt := 81) (by decide) dX7_modes_76 ?_
            exact hj _
        · refine J_iconst (pc := 55) hX (v := (1 : Int32)) (by decide) dX7_modes_55 ?_
          refine J_iload (pc := 56) hX 6 rfl dX7_modes_56 ?_
          refine J_ishl (pc := 58) hX dX7_modes_58 ?_
          refine J_goto (pc := 59) hX (tgt := 81) (by decide) dX7_modes_59 ?_
          exact hj _
    refine J_sub [4, 5, 6, 2, 1, 0] rfl ?_
    exact lhg8 1000 (0 : Int32) (2147483647 : Int32) (0 : Int32) I0
  · refine J_aload_n (pc := 13) hX 1 rfl dX7_modes_13 ?_
    refine J_iload_n (pc := 14) hX 0 rfl dX7_modes_14 ?_
    refine J_call2 (fun y17 I18 e19 => ?_)
    refine jrun_i (pc := 15) (jRunV hX s_X7_127 (ci := 7) (T := TX7) (N := 20) (As := [ji y1]) (rest := []) rfl (by decide) (C_X7_refuses Y hz0 t0 ht0 y1 I0 L0 y17 I18 e19) ht0 rfl rfl ⟨by decide, by decide⟩ ⟨Nat.le_of_ble_eq_true rfl, Nat.le_of_ble_eq_true rfl⟩ (Nat.le_of_ble_eq_true rfl) dX7_modes_15) ?_
    exact J_iret (pc := 18) hX (hQ _) dX7_modes_18
theorem C_X7_modes (Y : jY) (hz0 : Y.zf = false) (t0 : Nat) (ht0 : shC t0 = 8) (p0 : Int32) (p1 : Int32) (I0 : jI) (L0 : jL) (r : Int32) (I1 : jI) (h : X7_modes t0 p0 p1 I0 L0 = some (r, I1)) : jMet Y yX7_modes cX7_modes 8 (some .int) 50 2294 0 0 [jr t0, ji p0, ji p1] NC shC rfC I0 L0 (some (ji r)) NC shC rfC I1 L0 :=
  jmet_of _ _ h (fun Z r => jQ Y Z 0 0 (some (ji r.1)) NC shC rfC r.2 L0) (fun _ => rfl) (by decide) (Nat.le_of_ble_eq_true rfl) (fun Z hX => W_X7_modes hz0 t0 ht0 p0 p1 I0 L0 hX (fun _ => rfl))
def X7_nextRead_F1 (t0 : Nat) (p0 : Int32) (p1 : Int32) (p3 : Int32) (L0 : jL) (g2 : Int32 → Option (Int32)) : Int32 → Option (Int32) := fun (v1 : Int32) =>
if p1 ≤ v1 then (
some v1)
else (
if jin (((40 : Int32) * p0) + v1) 320 then (
if (lg_cmp (L0 (rfC t0 13) ((((40 : Int32) * p0) + v1)).toNatClampNeg) ((p3).toInt64)) = 0 then (
some v1)
else (
g2 (v1 + (1 : Int32)))) else none)
def X7_nextRead (t0 : Nat) (p0 : Int32) (p1 : Int32) (p2 : Int32) (p3 : Int32) (L0 : jL) : Option (Int32) :=
jfx (X7_nextRead_F1 t0 p0 p1 p3 L0) (fun _ => none) 1000 p2
set_option maxRecDepth 20000 in
set_option maxHeartbeats 4000000 in
theorem W_X7_nextRead {Y : jY} {Z : jZ} {Qf : Int32 → State → Prop} (hz0 : Y.zf = false) (t0 : Nat) (ht0 : shC t0 = 8) (p0 : Int32) (p1 : Int32) (p2 : Int32) (p3 : Int32) (I0 : jI) (L0 : jL) (hX : jOK Y Z RX7 cX7_nextRead 6 "nextRead" (some .int) 1 80 0 0) (hQ : ∀ r : Int32, Qf r = jQ Y Z 0 0 (some (ji r)) NC shC rfC I0 L0) : J Y Z 6 Qf (X7_nextRead t0 p0 p1 p2 p3 L0) 0 [(0, jr t0), (1, ji p0), (2, ji p1), (3, ji p2), (4, ji p3)] [] 0 0 NC shC rfC I0 L0 := by
  unfold X7_nextRead
  refine J_iload_n (pc := 0) hX 3 rfl dX7_nextRead_0 ?_
  refine J_istore (pc := 1) hX (lo' := [(5, ji p2), (0, jr t0), (1, ji p0), (2, ji p1), (3, ji p2), (4, ji p3)]) (by decide) rfl dX7_nextRead_1 ?_
  have lhg2 : ∀ mq : Nat, ∀ (v1 : Int32), J Y Z 6 Qf (jfx (X7_nextRead_F1 t0 p0 p1 p3 L0) (fun _ => none) mq v1) 3 [(0, jr t0), (1, ji p0), (2, ji p1), (4, ji p3), (5, ji v1)] [] 0 0 NC shC rfC I0 L0 := by
    intro mq
    refine jfx_J (fun (_ : Nat) (g2 : Int32 → Option (Int32)) => ∀ (v1 : Int32), J Y Z 6 Qf (g2 v1) 3 [(0, jr t0), (1, ji p0), (2, ji p1), (4, ji p3), (5, ji v1)] [] 0 0 NC shC rfC I0 L0) ?_ (fun _ g2 hg2 => ?_) mq
    · intro v1
      exact J_none
    intro v1
    unfold X7_nextRead_F1
    try dsimp only
    refine J_iload (pc := 3) hX 4 rfl dX7_nextRead_3 ?_
    refine J_iload_n (pc := 5) hX 2 rfl dX7_nextRead_5 ?_
    refine J_icmp_ge (pc := 6) hX (tgt := 34) (by decide) dX7_nextRead_6 (fun h3 => ?_) (fun h3 => ?_)
    · refine J_iload (pc := 34) hX 4 rfl dX7_nextRead_34 ?_
      exact J_iret (pc := 36) hX (hQ _) dX7_nextRead_36
    · refine J_aload_n (pc := 9) hX 0 rfl dX7_nextRead_9 ?_
      refine g_X7_31 (pc := 10) hX ht0 dX7_nextRead_10 ?_
      refine J_bipush (pc := 13) hX (v := (40 : Int32)) (by decide) dX7_nextRead_13 ?_
      refine J_iload_n (pc := 15) hX 1 rfl dX7_nextRead_15 ?_
      refine J_imul (pc := 16) hX dX7_nextRead_16 ?_
      refine J_iload (pc := 17) hX 4 rfl dX7_nextRead_17 ?_
      refine J_iadd (pc := 19) hX dX7_nextRead_19 ?_
      refine J_lald (pc := 20) hX (N := 320) (fs_7_13 t0 ht0) (by decide) dX7_nextRead_20 (fun h4 => ?_)
      refine J_iload (pc := 21) hX 3 rfl dX7_nextRead_21 ?_
      refine J_i2l (pc := 23) hX dX7_nextRead_23 ?_
      refine J_lcmp (pc := 24) hX dX7_nextRead_24 ?_
      refine J_if_eq (pc := 25) hX (tgt := 34) (by decide) dX7_nextRead_25 (fun h5 => ?_) (fun h5 => ?_)
      · refine J_iload (pc := 34) hX 4 rfl dX7_nextRead_34 ?_
        exact J_iret (pc := 36) hX (hQ _) dX7_nextRead_36
      · refine J_iinc (pc := 28) hX (v := (v1 + (1 : Int32))) (lo' := [(5, ji (v1 + (1 : Int32))), (0, jr t0), (1, ji p0), (2, ji p1), (4, ji p3)]) 4 rfl (by rfl) (by decide) rfl dX7_nextRead_28 ?_
        refine J_goto (pc := 31) hX (tgt := 3) (by decide) dX7_nextRead_31 ?_
        refine J_sub [1, 2, 3, 4, 0] rfl ?_
        exact hg2 (v1 + (1 : Int32))
  refine J_sub [1, 2, 3, 5, 0] rfl ?_
  exact lhg2 1000 p2
theorem C_X7_nextRead (Y : jY) (hz0 : Y.zf = false) (t0 : Nat) (ht0 : shC t0 = 8) (p0 : Int32) (p1 : Int32) (p2 : Int32) (p3 : Int32) (I0 : jI) (L0 : jL) (r : Int32) (h : X7_nextRead t0 p0 p1 p2 p3 L0 = some r) : jMet Y yX7_nextRead cX7_nextRead 6 (some .int) 1 80 0 0 [jr t0, ji p0, ji p1, ji p2, ji p3] NC shC rfC I0 L0 (some (ji r)) NC shC rfC I0 L0 :=
  jmet_of _ _ h (fun Z r => jQ Y Z 0 0 (some (ji r)) NC shC rfC I0 L0) (fun _ => rfl) (by decide) (Nat.le_of_ble_eq_true rfl) (fun Z hX => W_X7_nextRead hz0 t0 ht0 p0 p1 p2 p3 I0 L0 hX (fun _ => rfl))
def X7_foresight_F1 (t0 : Nat) (p0 : Int32) (p1 : Int32) (L0 : jL) (v6 : Int32) (v8 : Int32) (I9 : jI) (k23 : Int32 → Option (Int32 × jI)) (g28 : Int32 → Int32 → Option (Int32 × jI)) : Int32 → Int32 → Option (Int32 × jI) := fun (v26 : Int32) (v27 : Int32) =>
if v6 ≤ v27 then (
k23 v26)
else (
if jin v27 16 then (
(X7_nextRead t0 p0 p1 (v8 + (1 : Int32)) (I9 (rfC t0 19) (v27).toNatClampNeg) L0).bind (fun (y31 : Int32) =>
if jin v26 16 then (
(X7_nextRead t0 p0 p1 (v8 + (1 : Int32)) (I9 (rfC t0 19) (v26).toNatClampNeg) L0).bind (fun (y34 : Int32) =>
jlet ((y31 - y34)) (fun (y36 : Int32) =>
jlet (fun (v37 : Int32) =>
g28 v37 (v27 + (1 : Int32))) (fun (k38 : Int32 → Option (Int32 × jI)) =>
jlet (
k38 v27) (fun (k39 : Option (Int32 × jI)) =>
if 0 < y36 then (
k39)
else (
jlet (
k38 v26) (fun (k41 : Option (Int32 × jI)) =>
if y36 = 0 then (
if jin v27 16 then (
if jin v26 16 then (
if (I9 (rfC t0 19) (v26).toNatClampNeg) ≤ (I9 (rfC t0 19) (v27).toNatClampNeg) then (
k41)
else (
k39)) else none) else none)
else (
k41)))))))) else none)) else none)
def X7_foresight_F2 (t0 : Nat) (v6 : Int32) (I9 : jI) (y13 : Int32) (k15 : Int32 → Option (Int32 × jI)) (g49 : Int32 → Option (Int32 × jI)) : Int32 → Option (Int32 × jI) := fun (v48 : Int32) =>
if v6 ≤ v48 then (
k15 v48)
else (
if jin v48 16 then (
if (I9 (rfC t0 19) (v48).toNatClampNeg) = y13 then (
k15 v48)
else (
g49 (v48 + (1 : Int32)))) else none)
def X7_foresight_F3 (t0 : Nat) (p0 : Int32) (p1 : Int32) (p2 : Int32) (L0 : jL) (g10 : Int32 → Int32 → Int32 → jI → Option (Int32 × jI)) : Int32 → Int32 → Int32 → jI → Option (Int32 × jI) := fun (v6 : Int32) (v7 : Int32) (v8 : Int32) (I9 : jI) =>
if p1 ≤ v8 then (
some (v7, I9))
else (
if jin (((40 : Int32) * p0) + v8) 320 then (
jlet (((L0 (rfC t0 13) ((((40 : Int32) * p0) + v8)).toNatClampNeg)).toInt32) (fun (y13 : Int32) =>
jlet (fun (v14 : Int32) =>
jlet (fun (v16 : Int32) (v17 : Int32) (I18 : jI) =>
g10 v16 v17 (v8 + (1 : Int32)) I18) (fun (k19 : Int32 → Int32 → jI → Option (Int32 × jI)) =>
if v6 ≤ v14 then (
if p2 ≤ v6 then (
jlet (fun (v22 : Int32) =>
if jin v22 16 then jlet (jup I9 (rfC t0 19) (v22).toNatClampNeg y13) (fun (I25 : jI) =>
k19 v6 v7 I25) else none) (fun (k23 : Int32 → Option (Int32 × jI)) =>
jfx (X7_foresight_F1 t0 p0 p1 L0 v6 v8 I9 k23) (fun _ _ => none) 1000 (0 : Int32) (1 : Int32)))
else (
if jin v6 16 then jlet (jup I9 (rfC t0 19) (v6).toNatClampNeg y13) (fun (I47 : jI) =>
k19 (v6 + (1 : Int32)) v7 I47) else none))
else (
k19 v6 (v7 + (1 : Int32)) I9))) (fun (k15 : Int32 → Option (Int32 × jI)) =>
jfx (X7_foresight_F2 t0 v6 I9 y13 k15) (fun _ => none) 1000 (0 : Int32)))) else none)
def X7_foresight (t0 : Nat) (p0 : Int32) (p1 : Int32) (p2 : Int32) (I0 : jI) (L0 : jL) : Option (Int32 × jI) :=
(X7_isIn ((p2).toInt64) (1 : Int64) (16 : Int64)).bind (fun (y1 : Int32) =>
jlet (fun (v3 : Int32) =>
if v3 = 0 then (
jfx (X7_foresight_F3 t0 p0 p1 p2 L0) (fun _ _ _ _ => none) 1000 (0 : Int32) (0 : Int32) (0 : Int32) I0)
else (
jb2 (X7_refuses t0 v3 I0) (fun (y53 : Int32) (I54 : jI) =>
some (y53, I54)))) (fun (k4 : Int32 → Option (Int32 × jI)) =>
if y1 = 0 then (
k4 (-52 : Int32))
else (
(X7_wrongRow t0 p0 p1 (40 : Int32) I0 L0).bind (fun (y57 : Int32) =>
k4 y57))))
set_option maxRecDepth 20000 in
set_option maxHeartbeats 4000000 in
theorem W_X7_foresight {Y : jY} {Z : jZ} {Qf : Int32 × jI → State → Prop} (hz0 : Y.zf = false) (t0 : Nat) (ht0 : shC t0 = 8) (p0 : Int32) (p1 : Int32) (p2 : Int32) (I0 : jI) (L0 : jL) (hX : jOK Y Z RX7 cX7_foresight 13 "foresight" (some .int) 4 153 0 0) (hQ : ∀ r : Int32 × jI, Qf r = jQ Y Z 0 0 (some (ji r.1)) NC shC rfC r.2 L0) : J Y Z 13 Qf (X7_foresight t0 p0 p1 p2 I0 L0) 0 [(0, jr t0), (1, ji p0), (2, ji p1), (3, ji p2)] [] 0 0 NC shC rfC I0 L0 := by
  unfold X7_foresight
  refine J_iload_n (pc := 0) hX 3 rfl dX7_foresight_0 ?_
  refine J_i2l (pc := 1) hX dX7_foresight_1 ?_
  refine J_lconst (pc := 2) hX (v := (1 : Int64)) (by decide) dX7_foresight_2 ?_
  refine J_ldc2 (pc := 3) hX q_X7_119 dX7_foresight_3 ?_
  refine J_call1 (fun y1 e2 => ?_)
  refine jrun_i (pc := 6) (jRunS hX s_X7_47 (As := [jl ((p2).toInt64), jl (1 : Int64), jl (16 : Int64)]) (rest := []) (C_X7_isIn Y hz0 ((p2).toInt64) (1 : Int64) (16 : Int64) I0 L0 y1 e2) rfl rfl ⟨by decide, by decide⟩ ⟨Nat.le_of_ble_eq_true rfl, Nat.le_of_ble_eq_true rfl⟩ (Nat.le_of_ble_eq_true rfl) dX7_foresight_6) ?_
  refine J_join (fun (k4 : Int32 → Option (Int32 × jI)) => ∀ (v3 : Int32), J Y Z 13 Qf (k4 v3) 25 [(0, jr t0), (1, ji p0), (2, ji p1), (3, ji p2)] [ji v3] 0 0 NC shC rfC I0 L0) ?_ (fun k4 hk4 => ?_)
  · intro v3
    try dsimp only
    refine J_istore (pc := 25) hX (lo' := [(4, ji v3), (0, jr t0), (1, ji p0), (2, ji p1), (3, ji p2)]) (by decide) rfl dX7_foresight_25 ?_
    refine J_iload (pc := 27) hX 0 rfl dX7_foresight_27 ?_
    refine J_if_eq (pc := 29) hX (tgt := 39) (by decide) dX7_foresight_29 (fun h5 => ?_) (fun h5 => ?_)
    · refine J_iconst (pc := 39) hX (v := (0 : Int32)) (by decide) dX7_foresight_39 ?_
      refine J_istore (pc := 40) hX (lo' := [(5, ji (0 : Int32)), (4, ji v3), (0, jr t0), (1, ji p0), (2, ji p1), (3, ji p2)]) (by decide) rfl dX7_foresight_40 ?_
      refine J_iconst (pc := 42) hX (v := (0 : Int32)) (by decide) dX7_foresight_42 ?_
      refine J_istore (pc := 43) hX (lo' := [(6, ji (0 : Int32)), (5, ji (0 : Int32)), (4, ji v3), (0, jr t0), (1, ji p0), (2, ji p1), (3, ji p2)]) (by decide) rfl dX7_foresight_43 ?_
      refine J_iconst (pc := 45) hX (v := (0 : Int32)) (by decide) dX7_foresight_45 ?_
      refine J_istore (pc := 46) hX (lo' := [(7, ji (0 : Int32)), (6, ji (0 : Int32)), (5, ji (0 : Int32)), (4, ji v3), (0, jr t0), (1, ji p0), (2, ji p1), (3, ji p2)]) (by decide) rfl dX7_foresight_46 ?_
      have lhg10 : ∀ mq : Nat, ∀ (v6 : Int32) (v7 : Int32) (v8 : Int32) (I9 : jI), J Y Z 13 Qf (jfx (X7_foresight_F3 t0 p0 p1 p2 L0) (fun _ _ _ _ => none) mq v6 v7 v8 I9) 48 [(0, jr t0), (1, ji p0), (2, ji p1), (3, ji p2), (5, ji v6), (6, ji v7), (7, ji v8)] [] 0 0 NC shC rfC I9 L0 := by
        intro mq
        refine jfx_J (fun (_ : Nat) (g10 : Int32 → Int32 → Int32 → jI → Option (Int32 × jI)) => ∀ (v6 : Int32) (v7 : Int32) (v8 : Int32) (I9 : jI), J Y Z 13 Qf (g10 v6 v7 v8 I9) 48 [(0, jr t0), (1, ji p0), (2, ji p1), (3, ji p2), (5, ji v6), (6, ji v7), (7, ji v8)] [] 0 0 NC shC rfC I9 L0) ?_ (fun _ g10 hg10 => ?_) mq
        · intro v6 v7 v8 I9
          exact J_none
        intro v6 v7 v8 I9
        unfold X7_foresight_F3
        try dsimp only
        refine J_iload (pc := 48) hX 6 rfl dX7_foresight_48 ?_
        refine J_iload_n (pc := 50) hX 2 rfl dX7_foresight_50 ?_
        refine J_icmp_ge (pc := 51) hX (tgt := 238) (by decide) dX7_foresight_51 (fun h11 => ?_) (fun h11 => ?_)
        · refine J_iload (pc := 238) hX 5 rfl dX7_foresight_238 ?_
          exact J_iret (pc := 240) hX (hQ _) dX7_foresight_240
        · refine J_aload_n (pc := 54) hX 0 rfl dX7_foresight_54 ?_
          refine g_X7_31 (pc := 55) hX ht0 dX7_foresight_55 ?_
          refine J_bipush (pc := 58) hX (v := (40 : Int32)) (by decide) dX7_foresight_58 ?_
          refine J_iload_n (pc := 60) hX 1 rfl dX7_foresight_60 ?_
          refine J_imul (pc := 61) hX dX7_foresight_61 ?_
          refine J_iload (pc := 62) hX 6 rfl dX7_foresight_62 ?_
          refine J_iadd (pc := 64) hX dX7_foresight_64 ?_
          refine J_lald (pc := 65) hX (N := 320) (fs_7_13 t0 ht0) (by decide) dX7_foresight_65 (fun h12 => ?_)
          refine J_l2i (pc := 66) hX dX7_foresight_66 ?_
          refine J_leti (fun y13 => ?_)
          refine J_istore (pc := 67) hX (lo' := [(8, ji y13), (0, jr t0), (1, ji p0), (2, ji p1), (3, ji p2), (5, ji v6), (6, ji v7), (7, ji v8)]) (by decide) rfl dX7_foresight_67 ?_
          refine J_iconst (pc := 69) hX (v := (0 : Int32)) (by decide) dX7_foresight_69 ?_
          refine J_istore (pc := 70) hX (lo' := [(9, ji (0 : Int32)), (8, ji y13), (0, jr t0), (1, ji p0), (2, ji p1), (3, ji p2), (5, ji v6), (6, ji v7), (7, ji v8)]) (by decide) rfl dX7_foresight_70 ?_
          refine J_join (fun (k15 : Int32 → Option (Int32 × jI)) => ∀ (v14 : Int32), J Y Z 13 Qf (k15 v14) 97 [(0, jr t0), (1, ji p0), (2, ji p1), (3, ji p2), (5, ji v6), (6, ji v7), (7, ji v8), (8, ji y13), (9, ji v14)] [] 0 0 NC shC rfC I9 L0) ?_ (fun k15 hk15 => ?_)
          · intro v14
            try dsimp only
            refine J_iload (pc := 97) hX 8 rfl dX7_foresight_97 ?_
            refine J_iload (pc := 99) hX 4 rfl dX7_foresight_99 ?_
            refine J_join (fun (k19 : Int32 → Int32 → jI → Option (Int32 × jI)) => ∀ (v16 : Int32) (v17 : Int32) (I18 : jI), J Y Z 13 Qf (k19 v16 v17 I18) 232 [(0, jr t0), (1, ji p0), (2, ji p1), (3, ji p2), (5, ji v16), (6, ji v17), (7, ji v8)] [] 0 0 NC shC rfC I18 L0) ?_ (fun k19 hk19 => ?_)
            · intro v16 v17 I18
              try dsimp only
              refine J_iinc (pc := 232) hX (v := (v8 + (1 : Int32))) (lo' := [(7, ji (v8 + (1 : Int32))), (0, jr t0), (1, ji p0), (2, ji p1), (3, ji p2), (5, ji v16), (6, ji v17)]) 6 rfl (by rfl) (by decide) rfl dX7_foresight_232 ?_
              refine J_goto (pc := 235) hX (tgt := 48) (by decide) dX7_foresight_235 ?_
              refine J_sub [1, 2, 3, 4, 5, 6, 0] rfl ?_
              exact hg10 v16 v17 (v8 + (1 : Int32)) I18
            refine J_icmp_ge (pc := 101) hX (tgt := 110) (by decide) dX7_foresight_101 (fun h20 => ?_) (fun h20 => ?_)
            · refine J_iload (pc := 110) hX 4 rfl dX7_foresight_110 ?_
              refine J_iload_n (pc := 112) hX 3 rfl dX7_foresight_112 ?_
              refine J_icmp_ge (pc := 113) hX (tgt := 131) (by decide) dX7_foresight_113 (fun h21 => ?_) (fun h21 => ?_)
              · refine J_iconst (pc := 131) hX (v := (0 : Int32)) (by decide) dX7_foresight_131 ?_
                refine J_istore (pc := 132) hX (lo' := [(10, ji (0 : Int32)), (0, jr t0), (1, ji p0), (2, ji p1), (3, ji p2), (5, ji v6), (6, ji v7), (7, ji v8), (8, ji y13), (9, ji v14)]) (by decide) rfl dX7_foresight_132 ?_
                refine J_iconst (pc := 134) hX (v := (1 : Int32)) (by decide) dX7_foresight_134 ?_
                refine J_istore (pc := 135) hX (lo' := [(11, ji (1 : Int32)), (10, ji (0 : Int32)), (0, jr t0), (1, ji p0), (2, ji p1), (3, ji p2), (5, ji v6), (6, ji v7), (7, ji v8), (8, ji y13), (9, ji v14)]) (by decide) rfl dX7_foresight_135 ?_
                refine J_join (fun (k23 : Int32 → Option (Int32 × jI)) => ∀ (v22 : Int32), J Y Z 13 Qf (k23 v22) 223 [(0, jr t0), (1, ji p0), (2, ji p1), (3, ji p2), (5, ji v6), (6, ji v7), (7, ji v8), (8, ji y13), (10, ji v22)] [] 0 0 NC shC rfC I9 L0) ?_ (fun k23 hk23 => ?_)
                · intro v22
                  try dsimp only
                  refine J_aload_n (pc := 223) hX 0 rfl dX7_foresight_223 ?_
                  refine g_X7_42 (pc := 224) hX ht0 dX7_foresight_224 ?_
                  refine J_iload (pc := 227) hX 8 rfl dX7_foresight_227 ?_
                  refine J_iload (pc := 229) hX 7 rfl dX7_foresight_229 ?_
                  refine J_iast (pc := 231) hX (N := 16) (fs_7_19 t0 ht0) (by decide) dX7_foresight_231 (fun h24 I25 => ?_)
                  refine J_sub [0, 1, 2, 3, 4, 5, 6] rfl ?_
                  exact hk19 v6 v7 I25
                have lhg28 : ∀ mq : Nat, ∀ (v26 : Int32) (v27 : Int32), J Y Z 13 Qf (jfx (X7_foresight_F1 t0 p0 p1 L0 v6 v8 I9 k23) (fun _ _ => none) mq v26 v27) 137 [(0, jr t0), (1, ji p0), (2, ji p1), (3, ji p2), (5, ji v6), (6, ji v7), (7, ji v8), (8, ji y13), (10, ji v26), (11, ji v27)] [] 0 0 NC shC rfC I9 L0 := by
                  intro mq
                  refine jfx_J (fun (_ : Nat) (g28 : Int32 → Int32 → Option (Int32 × jI)) => ∀ (v26 : Int32) (v27 : Int32), J Y Z 13 Qf (g28 v26 v27) 137 [(0, jr t0), (1, ji p0), (2, ji p1), (3, ji p2), (5, ji v6), (6, ji v7), (7, ji v8), (8, ji y13), (10, ji v26), (11, ji v27)] [] 0 0 NC shC rfC I9 L0) ?_ (fun _ g28 hg28 => ?_) mq
                  · intro v26 v27
                    exact J_none
                  intro v26 v27
                  unfold X7_foresight_F1
                  try dsimp only
                  refine J_iload (pc := 137) hX 9 rfl dX7_foresight_137 ?_
                  refine J_iload (pc := 139) hX 4 rfl dX7_foresight_139 ?_
                  refine J_icmp_ge (pc := 141) hX (tgt := 223) (by decide) dX7_foresight_141 (fun h29 => ?_) (fun h29 => ?_)
                  · refine J_sub [0, 1, 2, 3, 4, 5, 6, 7, 8] rfl ?_
                    exact hk23 v26
                  · refine J_aload_n (pc := 144) hX 0 rfl dX7_foresight_144 ?_
                    refine J_iload_n (pc := 145) hX 1 rfl dX7_foresight_145 ?_
                    refine J_iload_n (pc := 146) hX 2 rfl dX7_foresight_146 ?_
                    refine J_iload (pc := 147) hX 6 rfl dX7_foresight_147 ?_
                    refine J_iconst (pc := 149) hX (v := (1 : Int32)) (by decide) dX7_foresight_149 ?_
                    refine J_iadd (pc := 150) hX dX7_foresight_150 ?_
                    refine J_aload_n (pc := 151) hX 0 rfl dX7_foresight_151 ?_
                    refine g_X7_42 (pc := 152) hX ht0 dX7_foresight_152 ?_
                    refine J_iload (pc := 155) hX 9 rfl dX7_foresight_155 ?_
                    refine J_iald (pc := 157) hX (N := 16) (fs_7_19 t0 ht0) (by decide) dX7_foresight_157 (fun h30 => ?_)
                    refine J_call1 (fun y31 e32 => ?_)
                    refine jrun_i (pc := 158) (jRunV hX s_X7_246 (ci := 7) (T := TX7) (N := 20) (As := [ji p0, ji p1, ji (v8 + (1 : Int32)), ji (I9 (rfC t0 19) (v27).toNatClampNeg)]) (rest := []) rfl (by decide) (C_X7_nextRead Y hz0 t0 ht0 p0 p1 (v8 + (1 : Int32)) (I9 (rfC t0 19) (v27).toNatClampNeg) I9 L0 y31 e32) ht0 rfl rfl ⟨by decide, by decide⟩ ⟨Nat.le_of_ble_eq_true rfl, Nat.le_of_ble_eq_true rfl⟩ (Nat.le_of_ble_eq_true rfl) dX7_foresight_158) ?_
                    refine J_aload_n (pc := 161) hX 0 rfl dX7_foresight_161 ?_
                    refine J_iload_n (pc := 162) hX 1 rfl dX7_foresight_162 ?_
                    refine J_iload_n (pc := 163) hX 2 rfl dX7_foresight_163 ?_
                    refine J_iload (pc := 164) hX 6 rfl dX7_foresight_164 ?_
                    refine J_iconst (pc := 166) hX (v := (1 : Int32)) (by decide) dX7_foresight_166 ?_
                    refine J_iadd (pc := 167) hX dX7_foresight_167 ?_
                    refine J_aload_n (pc := 168) hX 0 rfl dX7_foresight_168 ?_
                    refine g_X7_42 (pc := 169) hX ht0 dX7_foresight_169 ?_
                    refine J_iload (pc := 172) hX 8 rfl dX7_foresight_172 ?_
                    refine J_iald (pc := 174) hX (N := 16) (fs_7_19 t0 ht0) (by decide) dX7_foresight_174 (fun h33 => ?_)
                    refine J_call1 (fun y34 e35 => ?_)
                    refine jrun_i (pc := 175) (jRunV hX s_X7_246 (ci := 7) (T := TX7) (N := 20) (As := [ji p0, ji p1, ji (v8 + (1 : Int32)), ji (I9 (rfC t0 19) (v26).toNatClampNeg)]) (rest := [ji y31]) rfl (by decide) (C_X7_nextRead Y hz0 t0 ht0 p0 p1 (v8 + (1 : Int32)) (I9 (rfC t0 19) (v26).toNatClampNeg) I9 L0 y34 e35) ht0 rfl rfl ⟨by decide, by decide⟩ ⟨Nat.le_of_ble_eq_true rfl, Nat.le_of_ble_eq_true rfl⟩ (Nat.le_of_ble_eq_true rfl) dX7_foresight_175) ?_
                    refine J_isub (pc := 178) hX dX7_foresight_178 ?_
                    refine J_leti (fun y36 => ?_)
                    refine J_istore (pc := 179) hX (lo' := [(12, ji y36), (0, jr t0), (1, ji p0), (2, ji p1), (3, ji p2), (5, ji v6), (6, ji v7), (7, ji v8), (8, ji y13), (10, ji v26), (11, ji v27)]) (by decide) rfl dX7_foresight_179 ?_
                    refine J_iload (pc := 181) hX 0 rfl dX7_foresight_181 ?_
                    refine J_join (fun (k38 : Int32 → Option (Int32 × jI)) => ∀ (v37 : Int32), J Y Z 13 Qf (k38 v37) 215 [(0, jr t0), (1, ji p0), (2, ji p1), (3, ji p2), (5, ji v6), (6, ji v7), (7, ji v8), (8, ji y13), (11, ji v27)] [ji v37] 0 0 NC shC rfC I9 L0) ?_ (fun k38 hk38 => ?_)
                    · intro v37
                      try dsimp only
                      refine J_istore (pc := 215) hX (lo' := [(10, ji v37), (0, jr t0), (1, ji p0), (2, ji p1), (3, ji p2), (5, ji v6), (6, ji v7), (7, ji v8), (8, ji y13), (11, ji v27)]) (by decide) rfl dX7_foresight_215 ?_
                      refine J_iinc (pc := 217) hX (v := (v27 + (1 : Int32))) (lo' := [(11, ji (v27 + (1 : Int32))), (10, ji v37), (0, jr t0), (1, ji p0), (2, ji p1), (3, ji p2), (5, ji v6), (6, ji v7), (7, ji v8), (8, ji y13)]) 9 rfl (by rfl) (by decide) rfl dX7_foresight_217 ?_
                      refine J_goto (pc := 220) hX (tgt := 137) (by decide) dX7_foresight_220 ?_
                      refine J_sub [2, 3, 4, 5, 6, 7, 8, 9, 1, 0] rfl ?_
                      exact hg28 v37 (v27 + (1 : Int32))
                    refine J_join (fun (k39 : Option (Int32 × jI)) => J Y Z 13 Qf (k39) 208 [(0, jr t0), (1, ji p0), (2, ji p1), (3, ji p2), (5, ji v6), (6, ji v7), (7, ji v8), (8, ji y13), (11, ji v27)] [] 0 0 NC shC rfC I9 L0) ?_ (fun k39 hk39 => ?_)
                    · refine J_iload (pc := 208) hX 8 rfl dX7_foresight_208 ?_
                      refine J_goto (pc := 210) hX (tgt := 215) (by decide) dX7_foresight_210 ?_
                      exact hk38 v27
                    refine J_if_gt (pc := 183) hX (tgt := 208) (by decide) dX7_foresight_183 (fun h40 => ?_) (fun h40 => ?_)
                    · refine J_sub [1, 2, 3, 4, 5, 6, 7, 8, 10] rfl ?_
                      exact hk39
                    · refine J_iload (pc := 186) hX 0 rfl dX7_foresight_186 ?_
                      refine J_join (fun (k41 : Option (Int32 × jI)) => J Y Z 13 Qf (k41) 213 [(0, jr t0), (1, ji p0), (2, ji p1), (3, ji p2), (5, ji v6), (6, ji v7), (7, ji v8), (8, ji y13), (10, ji v26), (11, ji v27)] [] 0 0 NC shC rfC I9 L0) ?_ (fun k41 hk41 => ?_)
                      · refine J_iload (pc := 213) hX 8 rfl dX7_foresight_213 ?_
                        refine J_sub [0, 1, 2, 3, 4, 5, 6, 7, 9] rfl ?_
                        exact hk38 v26
                      refine J_if_ne (pc := 188) hX (tgt := 213) (by decide) dX7_foresight_188 (fun h42 => ?_) (fun h42 => ?_)
                      · refine J_sub [1, 2, 3, 4, 5, 6, 7, 8, 9, 10] rfl ?_
                        exact hk41
                      · refine J_aload_n (pc := 191) hX 1 rfl dX7_foresight_191 ?_
                        refine g_X7_42 (pc := 192) hX ht0 dX7_foresight_192 ?_
                        refine J_iload (pc := 195) hX 10 rfl dX7_foresight_195 ?_
                        refine J_iald (pc := 197) hX (N := 16) (fs_7_19 t0 ht0) (by decide) dX7_foresight_197 (fun h43 => ?_)
                        refine J_aload_n (pc := 198) hX 1 rfl dX7_foresight_198 ?_
                        refine g_X7_42 (pc := 199) hX ht0 dX7_foresight_199 ?_
                        refine J_iload (pc := 202) hX 9 rfl dX7_foresight_202 ?_
                        refine J_iald (pc := 204) hX (N := 16) (fs_7_19 t0 ht0) (by decide) dX7_foresight_204 (fun h44 => ?_)
                        refine J_icmp_ge (pc := 205) hX (tgt := 213) (by decide) dX7_foresight_205 (fun h45 => ?_) (fun h45 => ?_)
                        · refine J_sub [1, 2, 3, 4, 5, 6, 7, 8, 9, 10] rfl ?_
                          exact hk41
                        · refine J_sub [1, 2, 3, 4, 5, 6, 7, 8, 10] rfl ?_
                          exact hk39
                refine J_sub [2, 3, 4, 5, 6, 7, 8, 9, 1, 0] rfl ?_
                exact lhg28 1000 (0 : Int32) (1 : Int32)
              · refine J_aload_n (pc := 116) hX 0 rfl dX7_foresight_116 ?_
                refine g_X7_42 (pc := 117) hX ht0 dX7_foresight_117 ?_
                refine J_iload (pc := 120) hX 4 rfl dX7_foresight_120 ?_
                refine J_iload (pc := 122) hX 7 rfl dX7_foresight_122 ?_
                refine J_iast (pc := 124) hX (N := 16) (fs_7_19 t0 ht0) (by decide) dX7_foresight_124 (fun h46 I47 => ?_)
                refine J_iinc (pc := 125) hX (v := (v6 + (1 : Int32))) (lo' := [(5, ji (v6 + (1 : Int32))), (0, jr t0), (1, ji p0), (2, ji p1), (3, ji p2), (6, ji v7), (7, ji v8), (8, ji y13), (9, ji v14)]) 4 rfl (by rfl) (by decide) rfl dX7_foresight_125 ?_
                refine J_goto (pc := 128) hX (tgt := 232) (by decide) dX7_foresight_128 ?_
                refine J_sub [1, 2, 3, 4, 0, 5, 6] rfl ?_
                exact hk19 (v6 + (1 : Int32)) v7 I47
            · refine J_iinc (pc := 104) hX (v := (v7 + (1 : Int32))) (lo' := [(6, ji (v7 + (1 : Int32))), (0, jr t0), (1, ji p0), (2, ji p1), (3, ji p2), (5, ji v6), (7, ji v8), (8, ji y13), (9, ji v14)]) 5 rfl (by rfl) (by decide) rfl dX7_foresight_104 ?_
              refine J_goto (pc := 107) hX (tgt := 232) (by decide) dX7_foresight_107 ?_
              refine J_sub [1, 2, 3, 4, 5, 0, 6] rfl ?_
              exact hk19 v6 (v7 + (1 : Int32)) I9
          have lhg49 : ∀ mq : Nat, ∀ (v48 : Int32), J Y Z 13 Qf (jfx (X7_foresight_F2 t0 v6 I9 y13 k15) (fun _ => none) mq v48) 72 [(0, jr t0), (1, ji p0), (2, ji p1), (3, ji p2), (5, ji v6), (6, ji v7), (7, ji v8), (8, ji y13), (9, ji v48)] [] 0 0 NC shC rfC I9 L0 := by
            intro mq
            refine jfx_J (fun (_ : Nat) (g49 : Int32 → Option (Int32 × jI)) => ∀ (v48 : Int32), J Y Z 13 Qf (g49 v48) 72 [(0, jr t0), (1, ji p0), (2, ji p1), (3, ji p2), (5, ji v6), (6, ji v7), (7, ji v8), (8, ji y13), (9, ji v48)] [] 0 0 NC shC rfC I9 L0) ?_ (fun _ g49 hg49 => ?_) mq
            · intro v48
              exact J_none
            intro v48
            unfold X7_foresight_F2
            try dsimp only
            refine J_iload (pc := 72) hX 8 rfl dX7_foresight_72 ?_
            refine J_iload (pc := 74) hX 4 rfl dX7_foresight_74 ?_
            refine J_icmp_ge (pc := 76) hX (tgt := 97) (by decide) dX7_foresight_76 (fun h50 => ?_) (fun h50 => ?_)
            · exact hk15 v48
            · refine J_aload_n (pc := 79) hX 0 rfl dX7_foresight_79 ?_
              refine g_X7_42 (pc := 80) hX ht0 dX7_foresight_80 ?_
              refine J_iload (pc := 83) hX 8 rfl dX7_foresight_83 ?_
              refine J_iald (pc := 85) hX (N := 16) (fs_7_19 t0 ht0) (by decide) dX7_foresight_85 (fun h51 => ?_)
              refine J_iload (pc := 86) hX 7 rfl dX7_foresight_86 ?_
              refine J_icmp_eq (pc := 88) hX (tgt := 97) (by decide) dX7_foresight_88 (fun h52 => ?_) (fun h52 => ?_)
              · exact hk15 v48
              · refine J_iinc (pc := 91) hX (v := (v48 + (1 : Int32))) (lo' := [(9, ji (v48 + (1 : Int32))), (0, jr t0), (1, ji p0), (2, ji p1), (3, ji p2), (5, ji v6), (6, ji v7), (7, ji v8), (8, ji y13)]) 8 rfl (by rfl) (by decide) rfl dX7_foresight_91 ?_
                refine J_goto (pc := 94) hX (tgt := 72) (by decide) dX7_foresight_94 ?_
                refine J_sub [1, 2, 3, 4, 5, 6, 7, 8, 0] rfl ?_
                exact hg49 (v48 + (1 : Int32))
          refine J_sub [2, 3, 4, 5, 6, 7, 8, 1, 0] rfl ?_
          exact lhg49 1000 (0 : Int32)
      refine J_sub [4, 5, 6, 7, 2, 1, 0] rfl ?_
      exact lhg10 1000 (0 : Int32) (0 : Int32) (0 : Int32) I0
    · refine J_aload_n (pc := 32) hX 1 rfl dX7_foresight_32 ?_
      refine J_iload (pc := 33) hX 0 rfl dX7_foresight_33 ?_
      refine J_call2 (fun y53 I54 e55 => ?_)
      refine jrun_i (pc := 35) (jRunV hX s_X7_127 (ci := 7) (T := TX7) (N := 20) (As := [ji v3]) (rest := []) rfl (by decide) (C_X7_refuses Y hz0 t0 ht0 v3 I0 L0 y53 I54 e55) ht0 rfl rfl ⟨by decide, by decide⟩ ⟨Nat.le_of_ble_eq_true rfl, Nat.le_of_ble_eq_true rfl⟩ (Nat.le_of_ble_eq_true rfl) dX7_foresight_35) ?_
      exact J_iret (pc := 38) hX (hQ _) dX7_foresight_38
  refine J_if_eq (pc := 9) hX (tgt := 23) (by decide) dX7_foresight_9 (fun h56 => ?_) (fun h56 => ?_)
  · refine J_bipush (pc := 23) hX (v := (-52 : Int32)) (by decide) dX7_foresight_23 ?_
    exact hk4 (-52 : Int32)
  · refine J_aload_n (pc := 12) hX 0 rfl dX7_foresight_12 ?_
    refine J_iload_n (pc := 13) hX 1 rfl dX7_foresight_13 ?_
    refine J_iload_n (pc := 14) hX 2 rfl dX7_foresight_14 ?_
    refine J_bipush (pc := 15) hX (v := (40 : Int32)) (by decide) dX7_foresight_15 ?_
    refine J_call1 (fun y57 e58 => ?_)
    refine jrun_i (pc := 17) (jRunV hX s_X7_233 (ci := 7) (T := TX7) (N := 20) (As := [ji p0, ji p1, ji (40 : Int32)]) (rest := []) rfl (by decide) (C_X7_wrongRow Y hz0 t0 ht0 p0 p1 (40 : Int32) I0 L0 y57 e58) ht0 rfl rfl ⟨by decide, by decide⟩ ⟨Nat.le_of_ble_eq_true rfl, Nat.le_of_ble_eq_true rfl⟩ (Nat.le_of_ble_eq_true rfl) dX7_foresight_17) ?_
    refine J_goto (pc := 20) hX (tgt := 25) (by decide) dX7_foresight_20 ?_
    exact hk4 y57
theorem C_X7_foresight (Y : jY) (hz0 : Y.zf = false) (t0 : Nat) (ht0 : shC t0 = 8) (p0 : Int32) (p1 : Int32) (p2 : Int32) (I0 : jI) (L0 : jL) (r : Int32) (I1 : jI) (h : X7_foresight t0 p0 p1 p2 I0 L0 = some (r, I1)) : jMet Y yX7_foresight cX7_foresight 13 (some .int) 4 153 0 0 [jr t0, ji p0, ji p1, ji p2] NC shC rfC I0 L0 (some (ji r)) NC shC rfC I1 L0 :=
  jmet_of _ _ h (fun Z r => jQ Y Z 0 0 (some (ji r.1)) NC shC rfC r.2 L0) (fun _ => rfl) (by decide) (Nat.le_of_ble_eq_true rfl) (fun Z hX => W_X7_foresight hz0 t0 ht0 p0 p1 p2 I0 L0 hX (fun _ => rfl))
def X7_unlike_F1 (t0 : Nat) (p0 : Int32) (L0 : jL) (v2 : Int32) (k6 : Int32 → Option (Int32)) (g12 : Int32 → Int32 → Option (Int32)) : Int32 → Int32 → Option (Int32) := fun (v10 : Int32) (v11 : Int32) =>
if v2 ≤ v11 then (
k6 v10)
else (
jlet (fun (v14 : Int32) =>
g12 v14 (v11 + (1 : Int32))) (fun (k15 : Int32 → Option (Int32)) =>
jlet (
k15 (0 : Int32)) (fun (k16 : Option (Int32)) =>
if v10 = 0 then (
k16)
else (
if jin (((40 : Int32) * p0) + v11) 320 then (
if jin (((40 : Int32) * p0) + v2) 320 then (
if (lg_cmp (L0 (rfC t0 13) ((((40 : Int32) * p0) + v11)).toNatClampNeg) (L0 (rfC t0 13) ((((40 : Int32) * p0) + v2)).toNatClampNeg)) = 0 then (
k16)
else (
k15 (1 : Int32))) else none) else none))))
def X7_unlike_F2 (t0 : Nat) (p0 : Int32) (p1 : Int32) (p2 : Int32) (L0 : jL) (g3 : Int32 → Int32 → Option (Int32)) : Int32 → Int32 → Option (Int32) := fun (v1 : Int32) (v2 : Int32) =>
if p2 ≤ v2 then (
some v1)
else (
jlet (fun (v5 : Int32) =>
jlet (if v5 = 0 then (0 : Int32) else (1 : Int32)) (fun (y8 : Int32) =>
jlet ((v1 + y8)) (fun (y9 : Int32) =>
g3 y9 (v2 + (1 : Int32))))) (fun (k6 : Int32 → Option (Int32)) =>
jfx (X7_unlike_F1 t0 p0 L0 v2 k6) (fun _ _ => none) 1000 (1 : Int32) p1))
def X7_unlike (t0 : Nat) (p0 : Int32) (p1 : Int32) (p2 : Int32) (L0 : jL) : Option (Int32) :=
jfx (X7_unlike_F2 t0 p0 p1 p2 L0) (fun _ _ => none) 1000 (0 : Int32) p1
set_option maxRecDepth 20000 in
set_option maxHeartbeats 4000000 in
theorem W_X7_unlike {Y : jY} {Z : jZ} {Qf : Int32 → State → Prop} (hz0 : Y.zf = false) (t0 : Nat) (ht0 : shC t0 = 8) (p0 : Int32) (p1 : Int32) (p2 : Int32) (I0 : jI) (L0 : jL) (hX : jOK Y Z RX7 cX7_unlike 8 "unlike" (some .int) 1 80 0 0) (hQ : ∀ r : Int32, Qf r = jQ Y Z 0 0 (some (ji r)) NC shC rfC I0 L0) : J Y Z 8 Qf (X7_unlike t0 p0 p1 p2 L0) 0 [(0, jr t0), (1, ji p0), (2, ji p1), (3, ji p2)] [] 0 0 NC shC rfC I0 L0 := by
  unfold X7_unlike
  refine J_iconst (pc := 0) hX (v := (0 : Int32)) (by decide) dX7_unlike_0 ?_
  refine J_istore (pc := 1) hX (lo' := [(4, ji (0 : Int32)), (0, jr t0), (1, ji p0), (2, ji p1), (3, ji p2)]) (by decide) rfl dX7_unlike_1 ?_
  refine J_iload_n (pc := 3) hX 3 rfl dX7_unlike_3 ?_
  refine J_istore (pc := 4) hX (lo' := [(5, ji p1), (4, ji (0 : Int32)), (0, jr t0), (1, ji p0), (2, ji p1), (3, ji p2)]) (by decide) rfl dX7_unlike_4 ?_
  have lhg3 : ∀ mq : Nat, ∀ (v1 : Int32) (v2 : Int32), J Y Z 8 Qf (jfx (X7_unlike_F2 t0 p0 p1 p2 L0) (fun _ _ => none) mq v1 v2) 6 [(0, jr t0), (1, ji p0), (2, ji p1), (3, ji p2), (4, ji v1), (5, ji v2)] [] 0 0 NC shC rfC I0 L0 := by
    intro mq
    refine jfx_J (fun (_ : Nat) (g3 : Int32 → Int32 → Option (Int32)) => ∀ (v1 : Int32) (v2 : Int32), J Y Z 8 Qf (g3 v1 v2) 6 [(0, jr t0), (1, ji p0), (2, ji p1), (3, ji p2), (4, ji v1), (5, ji v2)] [] 0 0 NC shC rfC I0 L0) ?_ (fun _ g3 hg3 => ?_) mq
    · intro v1 v2
      exact J_none
    intro v1 v2
    unfold X7_unlike_F2
    try dsimp only
    refine J_iload (pc := 6) hX 5 rfl dX7_unlike_6 ?_
    refine J_iload_n (pc := 8) hX 3 rfl dX7_unlike_8 ?_
    refine J_icmp_ge (pc := 9) hX (tgt := 92) (by decide) dX7_unlike_9 (fun h4 => ?_) (fun h4 => ?_)
    · refine J_iload (pc := 92) hX 4 rfl dX7_unlike_92 ?_
      exact J_iret (pc := 94) hX (hQ _) dX7_unlike_94
    · refine J_iconst (pc := 12) hX (v := (1 : Int32)) (by decide) dX7_unlike_12 ?_
      refine J_istore (pc := 13) hX (lo' := [(6, ji (1 : Int32)), (0, jr t0), (1, ji p0), (2, ji p1), (3, ji p2), (4, ji v1), (5, ji v2)]) (by decide) rfl dX7_unlike_13 ?_
      refine J_iload_n (pc := 15) hX 3 rfl dX7_unlike_15 ?_
      refine J_istore (pc := 16) hX (lo' := [(7, ji p1), (6, ji (1 : Int32)), (0, jr t0), (1, ji p0), (2, ji p1), (3, ji p2), (4, ji v1), (5, ji v2)]) (by decide) rfl dX7_unlike_16 ?_
      refine J_join (fun (k6 : Int32 → Option (Int32)) => ∀ (v5 : Int32), J Y Z 8 Qf (k6 v5) 71 [(0, jr t0), (1, ji p0), (2, ji p1), (3, ji p2), (4, ji v1), (5, ji v2), (6, ji v5)] [] 0 0 NC shC rfC I0 L0) ?_ (fun k6 hk6 => ?_)
      · intro v5
        try dsimp only
        refine J_iload (pc := 71) hX 4 rfl dX7_unlike_71 ?_
        refine J_iload (pc := 73) hX 6 rfl dX7_unlike_73 ?_
        refine J_vjoin (fun kq (y8 : Int32) => J Y Z 8 Qf (kq) 83 [(0, jr t0), (1, ji p0), (2, ji p1), (3, ji p2), (4, ji v1), (5, ji v2), (6, ji v5)] [ji y8, ji v1] 0 0 NC shC rfC I0 L0) (fun y8 => ?_) (fun hj => ?_)
        · try dsimp only
          refine J_iadd (pc := 83) hX dX7_unlike_83 ?_
          refine J_leti (fun y9 => ?_)
          refine J_istore (pc := 84) hX (lo' := [(4, ji y9), (0, jr t0), (1, ji p0), (2, ji p1), (3, ji p2), (5, ji v2), (6, ji v5)]) (by decide) rfl dX7_unlike_84 ?_
          refine J_iinc (pc := 86) hX (v := (v2 + (1 : Int32))) (lo' := [(5, ji (v2 + (1 : Int32))), (4, ji y9), (0, jr t0), (1, ji p0), (2, ji p1), (3, ji p2), (6, ji v5)]) 5 rfl (by rfl) (by decide) rfl dX7_unlike_86 ?_
          refine J_goto (pc := 89) hX (tgt := 6) (by decide) dX7_unlike_89 ?_
          refine J_sub [2, 3, 4, 5, 1, 0] rfl ?_
          exact hg3 y9 (v2 + (1 : Int32))
        try dsimp only at hj
        refine J_if_eqV (pc := 75) hX (tgt := 82) (by decide) dX7_unlike_75 (fun h7 => ?_) (fun h7 => ?_)
        · refine J_iconst (pc := 82) hX (v := (0 : Int32)) (by decide) dX7_unlike_82 ?_
          exact hj _
        · refine J_iconst (pc := 78) hX (v := (1 : Int32)) (by decide) dX7_unlike_78 ?_
          refine J_goto (pc := 79) hX (tgt := 83) (by decide) dX7_unlike_79 ?_
          exact hj _
      have lhg12 : ∀ mq : Nat, ∀ (v10 : Int32) (v11 : Int32), J Y Z 8 Qf (jfx (X7_unlike_F1 t0 p0 L0 v2 k6) (fun _ _ => none) mq v10 v11) 18 [(0, jr t0), (1, ji p0), (2, ji p1), (3, ji p2), (4, ji v1), (5, ji v2), (6, ji v10), (7, ji v11)] [] 0 0 NC shC rfC I0 L0 := by
        intro mq
        refine jfx_J (fun (_ : Nat) (g12 : Int32 → Int32 → Option (Int32)) => ∀ (v10 : Int32) (v11 : Int32), J Y Z 8 Qf (g12 v10 v11) 18 [(0, jr t0), (1, ji p0), (2, ji p1), (3, ji p2), (4, ji v1), (5, ji v2), (6, ji v10), (7, ji v11)] [] 0 0 NC shC rfC I0 L0) ?_ (fun _ g12 hg12 => ?_) mq
        · intro v10 v11
          exact J_none
        intro v10 v11
        unfold X7_unlike_F1
        try dsimp only
        refine J_iload (pc := 18) hX 7 rfl dX7_unlike_18 ?_
        refine J_iload (pc := 20) hX 5 rfl dX7_unlike_20 ?_
        refine J_icmp_ge (pc := 22) hX (tgt := 71) (by decide) dX7_unlike_22 (fun h13 => ?_) (fun h13 => ?_)
        · refine J_sub [0, 1, 2, 3, 4, 5, 6] rfl ?_
          exact hk6 v10
        · refine J_iload (pc := 25) hX 6 rfl dX7_unlike_25 ?_
          refine J_join (fun (k15 : Int32 → Option (Int32)) => ∀ (v14 : Int32), J Y Z 8 Qf (k15 v14) 63 [(0, jr t0), (1, ji p0), (2, ji p1), (3, ji p2), (4, ji v1), (5, ji v2), (7, ji v11)] [ji v14] 0 0 NC shC rfC I0 L0) ?_ (fun k15 hk15 => ?_)
          · intro v14
            try dsimp only
            refine J_istore (pc := 63) hX (lo' := [(6, ji v14), (0, jr t0), (1, ji p0), (2, ji p1), (3, ji p2), (4, ji v1), (5, ji v2), (7, ji v11)]) (by decide) rfl dX7_unlike_63 ?_
            refine J_iinc (pc := 65) hX (v := (v11 + (1 : Int32))) (lo' := [(7, ji (v11 + (1 : Int32))), (6, ji v14), (0, jr t0), (1, ji p0), (2, ji p1), (3, ji p2), (4, ji v1), (5, ji v2)]) 7 rfl (by rfl) (by decide) rfl dX7_unlike_65 ?_
            refine J_goto (pc := 68) hX (tgt := 18) (by decide) dX7_unlike_68 ?_
            refine J_sub [2, 3, 4, 5, 6, 7, 1, 0] rfl ?_
            exact hg12 v14 (v11 + (1 : Int32))
          refine J_join (fun (k16 : Option (Int32)) => J Y Z 8 Qf (k16) 62 [(0, jr t0), (1, ji p0), (2, ji p1), (3, ji p2), (4, ji v1), (5, ji v2), (7, ji v11)] [] 0 0 NC shC rfC I0 L0) ?_ (fun k16 hk16 => ?_)
          · refine J_iconst (pc := 62) hX (v := (0 : Int32)) (by decide) dX7_unlike_62 ?_
            exact hk15 (0 : Int32)
          refine J_if_eq (pc := 27) hX (tgt := 62) (by decide) dX7_unlike_27 (fun h17 => ?_) (fun h17 => ?_)
          · refine J_sub [0, 1, 2, 3, 4, 5, 7] rfl ?_
            exact hk16
          · refine J_aload_n (pc := 30) hX 0 rfl dX7_unlike_30 ?_
            refine g_X7_31 (pc := 31) hX ht0 dX7_unlike_31 ?_
            refine J_bipush (pc := 34) hX (v := (40 : Int32)) (by decide) dX7_unlike_34 ?_
            refine J_iload_n (pc := 36) hX 1 rfl dX7_unlike_36 ?_
            refine J_imul (pc := 37) hX dX7_unlike_37 ?_
            refine J_iload (pc := 38) hX 7 rfl dX7_unlike_38 ?_
            refine J_iadd (pc := 40) hX dX7_unlike_40 ?_
            refine J_lald (pc := 41) hX (N := 320) (fs_7_13 t0 ht0) (by decide) dX7_unlike_41 (fun h18 => ?_)
            refine J_aload_n (pc := 42) hX 0 rfl dX7_unlike_42 ?_
            refine g_X7_31 (pc := 43) hX ht0 dX7_unlike_43 ?_
            refine J_bipush (pc := 46) hX (v := (40 : Int32)) (by decide) dX7_unlike_46 ?_
            refine J_iload_n (pc := 48) hX 1 rfl dX7_unlike_48 ?_
            refine J_imul (pc := 49) hX dX7_unlike_49 ?_
            refine J_iload (pc := 50) hX 5 rfl dX7_unlike_50 ?_
            refine J_iadd (pc := 52) hX dX7_unlike_52 ?_
            refine J_lald (pc := 53) hX (N := 320) (fs_7_13 t0 ht0) (by decide) dX7_unlike_53 (fun h19 => ?_)
            refine J_lcmp (pc := 54) hX dX7_unlike_54 ?_
            refine J_if_eq (pc := 55) hX (tgt := 62) (by decide) dX7_unlike_55 (fun h20 => ?_) (fun h20 => ?_)
            · refine J_sub [0, 1, 2, 3, 4, 5, 7] rfl ?_
              exact hk16
            · refine J_iconst (pc := 58) hX (v := (1 : Int32)) (by decide) dX7_unlike_58 ?_
              refine J_goto (pc := 59) hX (tgt := 63) (by decide) dX7_unlike_59 ?_
              refine J_sub [0, 1, 2, 3, 4, 5, 7] rfl ?_
              exact hk15 (1 : Int32)
      refine J_sub [2, 3, 4, 5, 6, 7, 1, 0] rfl ?_
      exact lhg12 1000 (1 : Int32) p1
  refine J_sub [2, 3, 4, 5, 1, 0] rfl ?_
  exact lhg3 1000 (0 : Int32) p1
theorem C_X7_unlike (Y : jY) (hz0 : Y.zf = false) (t0 : Nat) (ht0 : shC t0 = 8) (p0 : Int32) (p1 : Int32) (p2 : Int32) (I0 : jI) (L0 : jL) (r : Int32) (h : X7_unlike t0 p0 p1 p2 L0 = some r) : jMet Y yX7_unlike cX7_unlike 8 (some .int) 1 80 0 0 [jr t0, ji p0, ji p1, ji p2] NC shC rfC I0 L0 (some (ji r)) NC shC rfC I0 L0 :=
  jmet_of _ _ h (fun Z r => jQ Y Z 0 0 (some (ji r)) NC shC rfC I0 L0) (fun _ => rfl) (by decide) (Nat.le_of_ble_eq_true rfl) (fun Z hX => W_X7_unlike hz0 t0 ht0 p0 p1 p2 I0 L0 hX (fun _ => rfl))
def X7_reused_F1 (t0 : Nat) (p0 : Int32) (L0 : jL) (y2 : Int32) (k5 : Int32 → Option (Int32)) (g10 : Int32 → Option (Int32)) : Int32 → Option (Int32) := fun (v9 : Int32) =>
if v9 < 0 then (
k5 v9)
else (
if jin (((40 : Int32) * p0) + v9) 320 then (
if (lg_cmp (L0 (rfC t0 13) ((((40 : Int32) * p0) + v9)).toNatClampNeg) ((y2).toInt64)) = 0 then (
k5 v9)
else (
g10 (v9 + (-1 : Int32)))) else none)
def X7_reused (t0 : Nat) (p0 : Int32) (p1 : Int32) (L0 : jL) : Option (Int32) :=
if jin (((40 : Int32) * p0) + p1) 320 then (
jlet (((L0 (rfC t0 13) ((((40 : Int32) * p0) + p1)).toNatClampNeg)).toInt32) (fun (y2 : Int32) =>
jlet ((p1 - (1 : Int32))) (fun (y3 : Int32) =>
jlet (fun (v4 : Int32) =>
if 0 ≤ v4 then (
(X7_unlike t0 p0 (v4 + (1 : Int32)) p1 L0).bind (fun (y7 : Int32) =>
some y7))
else (
some (-1 : Int32))) (fun (k5 : Int32 → Option (Int32)) =>
jfx (X7_reused_F1 t0 p0 L0 y2 k5) (fun _ => none) 1000 y3)))) else none
set_option maxRecDepth 20000 in
set_option maxHeartbeats 4000000 in
theorem W_X7_reused {Y : jY} {Z : jZ} {Qf : Int32 → State → Prop} (hz0 : Y.zf = false) (t0 : Nat) (ht0 : shC t0 = 8) (p0 : Int32) (p1 : Int32) (I0 : jI) (L0 : jL) (hX : jOK Y Z RX7 cX7_reused 5 "reused" (some .int) 2 107 0 0) (hQ : ∀ r : Int32, Qf r = jQ Y Z 0 0 (some (ji r)) NC shC rfC I0 L0) : J Y Z 5 Qf (X7_reused t0 p0 p1 L0) 0 [(0, jr t0), (1, ji p0), (2, ji p1)] [] 0 0 NC shC rfC I0 L0 := by
  unfold X7_reused
  refine J_aload_n (pc := 0) hX 0 rfl dX7_reused_0 ?_
  refine g_X7_31 (pc := 1) hX ht0 dX7_reused_1 ?_
  refine J_bipush (pc := 4) hX (v := (40 : Int32)) (by decide) dX7_reused_4 ?_
  refine J_iload_n (pc := 6) hX 1 rfl dX7_reused_6 ?_
  refine J_imul (pc := 7) hX dX7_reused_7 ?_
  refine J_iload_n (pc := 8) hX 2 rfl dX7_reused_8 ?_
  refine J_iadd (pc := 9) hX dX7_reused_9 ?_
  refine J_lald (pc := 10) hX (N := 320) (fs_7_13 t0 ht0) (by decide) dX7_reused_10 (fun h1 => ?_)
  refine J_l2i (pc := 11) hX dX7_reused_11 ?_
  refine J_leti (fun y2 => ?_)
  refine J_istore_n (pc := 12) hX (lo' := [(3, ji y2), (0, jr t0), (1, ji p0), (2, ji p1)]) (by decide) rfl dX7_reused_12 ?_
  refine J_iload_n (pc := 13) hX 3 rfl dX7_reused_13 ?_
  refine J_iconst (pc := 14) hX (v := (1 : Int32)) (by decide) dX7_reused_14 ?_
  refine J_isub (pc := 15) hX dX7_reused_15 ?_
  refine J_leti (fun y3 => ?_)
  refine J_istore (pc := 16) hX (lo' := [(4, ji y3), (3, ji y2), (0, jr t0), (1, ji p0), (2, ji p1)]) (by decide) rfl dX7_reused_16 ?_
  refine J_join (fun (k5 : Int32 → Option (Int32)) => ∀ (v4 : Int32), J Y Z 5 Qf (k5 v4) 47 [(0, jr t0), (1, ji p0), (2, ji p1), (4, ji v4)] [] 0 0 NC shC rfC I0 L0) ?_ (fun k5 hk5 => ?_)
  · intro v4
    try dsimp only
    refine J_iload (pc := 47) hX 3 rfl dX7_reused_47 ?_
    refine J_if_ge (pc := 49) hX (tgt := 54) (by decide) dX7_reused_49 (fun h6 => ?_) (fun h6 => ?_)
    · refine J_aload_n (pc := 54) hX 0 rfl dX7_reused_54 ?_
      refine J_iload_n (pc := 55) hX 1 rfl dX7_reused_55 ?_
      refine J_iload (pc := 56) hX 3 rfl dX7_reused_56 ?_
      refine J_iconst (pc := 58) hX (v := (1 : Int32)) (by decide) dX7_reused_58 ?_
      refine J_iadd (pc := 59) hX dX7_reused_59 ?_
      refine J_iload_n (pc := 60) hX 2 rfl dX7_reused_60 ?_
      refine J_call1 (fun y7 e8 => ?_)
      refine jrun_i (pc := 61) (jRunV hX s_X7_249 (ci := 7) (T := TX7) (N := 20) (As := [ji p0, ji (v4 + (1 : Int32)), ji p1]) (rest := []) rfl (by decide) (C_X7_unlike Y hz0 t0 ht0 p0 (v4 + (1 : Int32)) p1 I0 L0 y7 e8) ht0 rfl rfl ⟨by decide, by decide⟩ ⟨Nat.le_of_ble_eq_true rfl, Nat.le_of_ble_eq_true rfl⟩ (Nat.le_of_ble_eq_true rfl) dX7_reused_61) ?_
      exact J_iret (pc := 64) hX (hQ _) dX7_reused_64
    · refine J_iconst (pc := 52) hX (v := (-1 : Int32)) (by decide) dX7_reused_52 ?_
      exact J_iret (pc := 53) hX (hQ _) dX7_reused_53
  have lhg10 : ∀ mq : Nat, ∀ (v9 : Int32), J Y Z 5 Qf (jfx (X7_reused_F1 t0 p0 L0 y2 k5) (fun _ => none) mq v9) 18 [(0, jr t0), (1, ji p0), (2, ji p1), (3, ji y2), (4, ji v9)] [] 0 0 NC shC rfC I0 L0 := by
    intro mq
    refine jfx_J (fun (_ : Nat) (g10 : Int32 → Option (Int32)) => ∀ (v9 : Int32), J Y Z 5 Qf (g10 v9) 18 [(0, jr t0), (1, ji p0), (2, ji p1), (3, ji y2), (4, ji v9)] [] 0 0 NC shC rfC I0 L0) ?_ (fun _ g10 hg10 => ?_) mq
    · intro v9
      exact J_none
    intro v9
    unfold X7_reused_F1
    try dsimp only
    refine J_iload (pc := 18) hX 4 rfl dX7_reused_18 ?_
    refine J_if_lt (pc := 20) hX (tgt := 47) (by decide) dX7_reused_20 (fun h11 => ?_) (fun h11 => ?_)
    · refine J_sub [0, 1, 2, 4] rfl ?_
      exact hk5 v9
    · refine J_aload_n (pc := 23) hX 0 rfl dX7_reused_23 ?_
      refine g_X7_31 (pc := 24) hX ht0 dX7_reused_24 ?_
      refine J_bipush (pc := 27) hX (v := (40 : Int32)) (by decide) dX7_reused_27 ?_
      refine J_iload_n (pc := 29) hX 1 rfl dX7_reused_29 ?_
      refine J_imul (pc := 30) hX dX7_reused_30 ?_
      refine J_iload (pc := 31) hX 4 rfl dX7_reused_31 ?_
      refine J_iadd (pc := 33) hX dX7_reused_33 ?_
      refine J_lald (pc := 34) hX (N := 320) (fs_7_13 t0 ht0) (by decide) dX7_reused_34 (fun h12 => ?_)
      refine J_iload_n (pc := 35) hX 3 rfl dX7_reused_35 ?_
      refine J_i2l (pc := 36) hX dX7_reused_36 ?_
      refine J_lcmp (pc := 37) hX dX7_reused_37 ?_
      refine J_if_eq (pc := 38) hX (tgt := 47) (by decide) dX7_reused_38 (fun h13 => ?_) (fun h13 => ?_)
      · refine J_sub [0, 1, 2, 4] rfl ?_
        exact hk5 v9
      · refine J_iinc (pc := 41) hX (v := (v9 + (-1 : Int32))) (lo' := [(4, ji (v9 + (-1 : Int32))), (0, jr t0), (1, ji p0), (2, ji p1), (3, ji y2)]) 4 rfl (by rfl) (by decide) rfl dX7_reused_41 ?_
        refine J_goto (pc := 44) hX (tgt := 18) (by decide) dX7_reused_44 ?_
        refine J_sub [1, 2, 3, 4, 0] rfl ?_
        exact hg10 (v9 + (-1 : Int32))
  refine J_sub [2, 3, 4, 1, 0] rfl ?_
  exact lhg10 1000 y3
theorem C_X7_reused (Y : jY) (hz0 : Y.zf = false) (t0 : Nat) (ht0 : shC t0 = 8) (p0 : Int32) (p1 : Int32) (I0 : jI) (L0 : jL) (r : Int32) (h : X7_reused t0 p0 p1 L0 = some r) : jMet Y yX7_reused cX7_reused 5 (some .int) 2 107 0 0 [jr t0, ji p0, ji p1] NC shC rfC I0 L0 (some (ji r)) NC shC rfC I0 L0 :=
  jmet_of _ _ h (fun Z r => jQ Y Z 0 0 (some (ji r)) NC shC rfC I0 L0) (fun _ => rfl) (by decide) (Nat.le_of_ble_eq_true rfl) (fun Z hX => W_X7_reused hz0 t0 ht0 p0 p1 I0 L0 hX (fun _ => rfl))
def X7_reuse (t0 : Nat) (p0 : Int32) (p1 : Int32) (p2 : Int32) (I0 : jI) (L0 : jL) : Option (Int32 × jI) :=
(X7_wrongRow t0 p0 p1 (40 : Int32) I0 L0).bind (fun (y1 : Int32) =>
jlet (
if y1 = 0 then (
jb2 (X7_refuses t0 (-52 : Int32) I0) (fun (y5 : Int32) (I6 : jI) =>
some (y5, I6)))
else (
jb2 (X7_refuses t0 y1 I0) (fun (y8 : Int32) (I9 : jI) =>
some (y8, I9)))) (fun (k3 : Option (Int32 × jI)) =>
if y1 = 0 then (
(X7_isIn ((p2).toInt64) (0 : Int64) (((p1 - (1 : Int32))).toInt64)).bind (fun (y12 : Int32) =>
if y12 = 0 then (
k3)
else (
(X7_reused t0 p0 p2 L0).bind (fun (y15 : Int32) =>
some (y15, I0)))))
else (
k3)))
set_option maxRecDepth 20000 in
set_option maxHeartbeats 4000000 in
theorem W_X7_reuse {Y : jY} {Z : jZ} {Qf : Int32 × jI → State → Prop} (hz0 : Y.zf = false) (t0 : Nat) (ht0 : shC t0 = 8) (p0 : Int32) (p1 : Int32) (p2 : Int32) (I0 : jI) (L0 : jL) (hX : jOK Y Z RX7 cX7_reuse 5 "reuse" (some .int) 4 153 0 0) (hQ : ∀ r : Int32 × jI, Qf r = jQ Y Z 0 0 (some (ji r.1)) NC shC rfC r.2 L0) : J Y Z 5 Qf (X7_reuse t0 p0 p1 p2 I0 L0) 0 [(0, jr t0), (1, ji p0), (2, ji p1), (3, ji p2)] [] 0 0 NC shC rfC I0 L0 := by
  unfold X7_reuse
  refine J_aload_n (pc := 0) hX 0 rfl dX7_reuse_0 ?_
  refine J_iload_n (pc := 1) hX 1 rfl dX7_reuse_1 ?_
  refine J_iload_n (pc := 2) hX 2 rfl dX7_reuse_2 ?_
  refine J_bipush (pc := 3) hX (v := (40 : Int32)) (by decide) dX7_reuse_3 ?_
  refine J_call1 (fun y1 e2 => ?_)
  refine jrun_i (pc := 5) (jRunV hX s_X7_233 (ci := 7) (T := TX7) (N := 20) (As := [ji p0, ji p1, ji (40 : Int32)]) (rest := []) rfl (by decide) (C_X7_wrongRow Y hz0 t0 ht0 p0 p1 (40 : Int32) I0 L0 y1 e2) ht0 rfl rfl ⟨by decide, by decide⟩ ⟨Nat.le_of_ble_eq_true rfl, Nat.le_of_ble_eq_true rfl⟩ (Nat.le_of_ble_eq_true rfl) dX7_reuse_5) ?_
  refine J_istore (pc := 8) hX (lo' := [(4, ji y1), (0, jr t0), (1, ji p0), (2, ji p1), (3, ji p2)]) (by decide) rfl dX7_reuse_8 ?_
  refine J_iload (pc := 10) hX 0 rfl dX7_reuse_10 ?_
  refine J_join (fun (k3 : Option (Int32 × jI)) => J Y Z 5 Qf (k3) 28 [(0, jr t0), (4, ji y1)] [] 0 0 NC shC rfC I0 L0) ?_ (fun k3 hk3 => ?_)
  · refine J_aload_n (pc := 28) hX 0 rfl dX7_reuse_28 ?_
    refine J_iload (pc := 29) hX 1 rfl dX7_reuse_29 ?_
    refine J_if_eq (pc := 31) hX (tgt := 39) (by decide) dX7_reuse_31 (fun h4 => ?_) (fun h4 => ?_)
    · refine J_bipush (pc := 39) hX (v := (-52 : Int32)) (by decide) dX7_reuse_39 ?_
      refine J_call2 (fun y5 I6 e7 => ?_)
      refine jrun_i (pc := 41) (jRunV hX s_X7_127 (ci := 7) (T := TX7) (N := 20) (As := [ji (-52 : Int32)]) (rest := []) rfl (by decide) (C_X7_refuses Y hz0 t0 ht0 (-52 : Int32) I0 L0 y5 I6 e7) ht0 rfl rfl ⟨by decide, by decide⟩ ⟨Nat.le_of_ble_eq_true rfl, Nat.le_of_ble_eq_true rfl⟩ (Nat.le_of_ble_eq_true rfl) dX7_reuse_41) ?_
      exact J_iret (pc := 44) hX (hQ _) dX7_reuse_44
    · refine J_iload (pc := 34) hX 1 rfl dX7_reuse_34 ?_
      refine J_goto (pc := 36) hX (tgt := 41) (by decide) dX7_reuse_36 ?_
      refine J_call2 (fun y8 I9 e10 => ?_)
      refine jrun_i (pc := 41) (jRunV hX s_X7_127 (ci := 7) (T := TX7) (N := 20) (As := [ji y1]) (rest := []) rfl (by decide) (C_X7_refuses Y hz0 t0 ht0 y1 I0 L0 y8 I9 e10) ht0 rfl rfl ⟨by decide, by decide⟩ ⟨Nat.le_of_ble_eq_true rfl, Nat.le_of_ble_eq_true rfl⟩ (Nat.le_of_ble_eq_true rfl) dX7_reuse_41) ?_
      exact J_iret (pc := 44) hX (hQ _) dX7_reuse_44
  refine J_if_ne (pc := 12) hX (tgt := 28) (by decide) dX7_reuse_12 (fun h11 => ?_) (fun h11 => ?_)
  · refine J_sub [1, 0] rfl ?_
    exact hk3
  · refine J_iload_n (pc := 15) hX 4 rfl dX7_reuse_15 ?_
    refine J_i2l (pc := 16) hX dX7_reuse_16 ?_
    refine J_lconst (pc := 17) hX (v := (0 : Int64)) (by decide) dX7_reuse_17 ?_
    refine J_iload_n (pc := 18) hX 3 rfl dX7_reuse_18 ?_
    refine J_iconst (pc := 19) hX (v := (1 : Int32)) (by decide) dX7_reuse_19 ?_
    refine J_isub (pc := 20) hX dX7_reuse_20 ?_
    refine J_i2l (pc := 21) hX dX7_reuse_21 ?_
    refine J_call1 (fun y12 e13 => ?_)
    refine jrun_i (pc := 22) (jRunS hX s_X7_47 (As := [jl ((p2).toInt64), jl (0 : Int64), jl (((p1 - (1 : Int32))).toInt64)]) (rest := []) (C_X7_isIn Y hz0 ((p2).toInt64) (0 : Int64) (((p1 - (1 : Int32))).toInt64) I0 L0 y12 e13) rfl rfl ⟨by decide, by decide⟩ ⟨Nat.le_of_ble_eq_true rfl, Nat.le_of_ble_eq_true rfl⟩ (Nat.le_of_ble_eq_true rfl) dX7_reuse_22) ?_
    refine J_if_ne (pc := 25) hX (tgt := 45) (by decide) dX7_reuse_25 (fun h14 => ?_) (fun h14 => ?_)
    · refine J_aload_n (pc := 45) hX 1 rfl dX7_reuse_45 ?_
      refine J_iload_n (pc := 46) hX 2 rfl dX7_reuse_46 ?_
      refine J_iload_n (pc := 47) hX 4 rfl dX7_reuse_47 ?_
      refine J_call1 (fun y15 e16 => ?_)
      refine jrun_i (pc := 48) (jRunV hX s_X7_252 (ci := 7) (T := TX7) (N := 20) (As := [ji p0, ji p2]) (rest := []) rfl (by decide) (C_X7_reused Y hz0 t0 ht0 p0 p2 I0 L0 y15 e16) ht0 rfl rfl ⟨by decide, by decide⟩ ⟨Nat.le_of_ble_eq_true rfl, Nat.le_of_ble_eq_true rfl⟩ (Nat.le_of_ble_eq_true rfl) dX7_reuse_48) ?_
      exact J_iret (pc := 51) hX (hQ _) dX7_reuse_51
    · refine J_sub [1, 0] rfl ?_
      exact hk3
theorem C_X7_reuse (Y : jY) (hz0 : Y.zf = false) (t0 : Nat) (ht0 : shC t0 = 8) (p0 : Int32) (p1 : Int32) (p2 : Int32) (I0 : jI) (L0 : jL) (r : Int32) (I1 : jI) (h : X7_reuse t0 p0 p1 p2 I0 L0 = some (r, I1)) : jMet Y yX7_reuse cX7_reuse 5 (some .int) 4 153 0 0 [jr t0, ji p0, ji p1, ji p2] NC shC rfC I0 L0 (some (ji r)) NC shC rfC I1 L0 :=
  jmet_of _ _ h (fun Z r => jQ Y Z 0 0 (some (ji r.1)) NC shC rfC r.2 L0) (fun _ => rfl) (by decide) (Nat.le_of_ble_eq_true rfl) (fun Z hX => W_X7_reuse hz0 t0 ht0 p0 p1 p2 I0 L0 hX (fun _ => rfl))
def X7_rowOf_F1 (t0 : Nat) (p0 : Int32) (p1 : Int32) (L0 : jL) (v17 : Int32) (k22 : Int32 → Option (Int32 × jI)) (g28 : Int32 → Int32 → Option (Int32 × jI)) : Int32 → Int32 → Option (Int32 × jI) := fun (v26 : Int32) (v27 : Int32) =>
if p1 ≤ v27 then (
k22 v26)
else (
if jin (((40 : Int32) * p0) + v27) 320 then (
jlet (if (lg_cmp (L0 (rfC t0 13) ((((40 : Int32) * p0) + v27)).toNatClampNeg) ((v17).toInt64)) = 0 then (1 : Int32) else (0 : Int32)) (fun (y32 : Int32) =>
jlet ((v26 + y32)) (fun (y33 : Int32) =>
g28 y33 (v27 + (1 : Int32))))) else none)
def X7_rowOf_F2 (t0 : Nat) (p0 : Int32) (p1 : Int32) (p2 : Int32) (L0 : jL) (k13 : Int32 → Int32 → Option (Int32 × jI)) (g18 : Int32 → Int32 → Int32 → Option (Int32 × jI)) : Int32 → Int32 → Int32 → Option (Int32 × jI) := fun (v15 : Int32) (v16 : Int32) (v17 : Int32) =>
if (64 : Int32) ≤ v17 then (
k13 v15 v16)
else (
if p2 = (2 : Int32) then (
jlet (fun (v21 : Int32) =>
jlet (if v21 ≤ v16 then v15 else v17) (fun (y24 : Int32) =>
jlet ((jmax v16 v21)) (fun (y25 : Int32) =>
g18 y24 y25 (v17 + (1 : Int32))))) (fun (k22 : Int32 → Option (Int32 × jI)) =>
jfx (X7_rowOf_F1 t0 p0 p1 L0 v17 k22) (fun _ _ => none) 1000 (0 : Int32) (0 : Int32)))
else (
k13 v15 v16))
def X7_rowOf_F3 (t0 : Nat) (p0 : Int32) (p1 : Int32) (p2 : Int32) (L0 : jL) (k10 : Int32 → Option (Int32 × jI)) (g36 : Int32 → Int32 → Option (Int32 × jI)) : Int32 → Int32 → Option (Int32 × jI) := fun (v34 : Int32) (v35 : Int32) =>
if p1 ≤ v35 then (
k10 v34)
else (
if p2 = (1 : Int32) then (
(X7_reused t0 p0 v35 L0).bind (fun (y39 : Int32) =>
jlet ((jmax v34 y39)) (fun (y41 : Int32) =>
g36 y41 (v35 + (1 : Int32)))))
else (
k10 v34))
def X7_rowOf (t0 : Nat) (p0 : Int32) (p1 : Int32) (p2 : Int32) (I0 : jI) (L0 : jL) : Option (Int32 × jI) :=
(X7_isIn ((p2).toInt64) (0 : Int64) (2 : Int64)).bind (fun (y1 : Int32) =>
jlet (fun (v3 : Int32) =>
if v3 = 0 then (
if p2 = 0 then (
(X7_unlike t0 p0 (0 : Int32) p1 L0).bind (fun (y42 : Int32) =>
some (y42, I0)))
else (
jlet (if p2 = (1 : Int32) then (-1 : Int32) else (0 : Int32)) (fun (y8 : Int32) =>
jlet (fun (v9 : Int32) =>
jlet (fun (v11 : Int32) (v12 : Int32) =>
if p2 = (1 : Int32) then (
some (v12, I0))
else (
some (v11, I0))) (fun (k13 : Int32 → Int32 → Option (Int32 × jI)) =>
jfx (X7_rowOf_F2 t0 p0 p1 p2 L0 k13) (fun _ _ _ => none) 1000 (-1 : Int32) v9 (0 : Int32))) (fun (k10 : Int32 → Option (Int32 × jI)) =>
jfx (X7_rowOf_F3 t0 p0 p1 p2 L0 k10) (fun _ _ => none) 1000 y8 (0 : Int32)))))
else (
jb2 (X7_refuses t0 v3 I0) (fun (y44 : Int32) (I45 : jI) =>
some (y44, I45)))) (fun (k4 : Int32 → Option (Int32 × jI)) =>
if y1 = 0 then (
k4 (-52 : Int32))
else (
(X7_wrongRow t0 p0 p1 (40 : Int32) I0 L0).bind (fun (y48 : Int32) =>
k4 y48))))
set_option maxRecDepth 20000 in
set_option maxHeartbeats 4000000 in
theorem W_X7_rowOf {Y : jY} {Z : jZ} {Qf : Int32 × jI → State → Prop} (hz0 : Y.zf = false) (t0 : Nat) (ht0 : shC t0 = 8) (p0 : Int32) (p1 : Int32) (p2 : Int32) (I0 : jI) (L0 : jL) (hX : jOK Y Z RX7 cX7_rowOf 10 "rowOf" (some .int) 4 153 0 0) (hQ : ∀ r : Int32 × jI, Qf r = jQ Y Z 0 0 (some (ji r.1)) NC shC rfC r.2 L0) : J Y Z 10 Qf (X7_rowOf t0 p0 p1 p2 I0 L0) 0 [(0, jr t0), (1, ji p0), (2, ji p1), (3, ji p2)] [] 0 0 NC shC rfC I0 L0 := by
  unfold X7_rowOf
  refine J_iload_n (pc := 0) hX 3 rfl dX7_rowOf_0 ?_
  refine J_i2l (pc := 1) hX dX7_rowOf_1 ?_
  refine J_lconst (pc := 2) hX (v := (0 : Int64)) (by decide) dX7_rowOf_2 ?_
  refine J_ldc2 (pc := 3) hX q_X7_133 dX7_rowOf_3 ?_
  refine J_call1 (fun y1 e2 => ?_)
  refine jrun_i (pc := 6) (jRunS hX s_X7_47 (As := [jl ((p2).toInt64), jl (0 : Int64), jl (2 : Int64)]) (rest := []) (C_X7_isIn Y hz0 ((p2).toInt64) (0 : Int64) (2 : Int64) I0 L0 y1 e2) rfl rfl ⟨by decide, by decide⟩ ⟨Nat.le_of_ble_eq_true rfl, Nat.le_of_ble_eq_true rfl⟩ (Nat.le_of_ble_eq_true rfl) dX7_rowOf_6) ?_
  refine J_join (fun (k4 : Int32 → Option (Int32 × jI)) => ∀ (v3 : Int32), J Y Z 10 Qf (k4 v3) 25 [(0, jr t0), (1, ji p0), (2, ji p1), (3, ji p2)] [ji v3] 0 0 NC shC rfC I0 L0) ?_ (fun k4 hk4 => ?_)
  · intro v3
    try dsimp only
    refine J_istore (pc := 25) hX (lo' := [(4, ji v3), (0, jr t0), (1, ji p0), (2, ji p1), (3, ji p2)]) (by decide) rfl dX7_rowOf_25 ?_
    refine J_iload (pc := 27) hX 0 rfl dX7_rowOf_27 ?_
    refine J_if_eq (pc := 29) hX (tgt := 39) (by decide) dX7_rowOf_29 (fun h5 => ?_) (fun h5 => ?_)
    · refine J_iload_n (pc := 39) hX 4 rfl dX7_rowOf_39 ?_
      refine J_if_ne (pc := 40) hX (tgt := 51) (by decide) dX7_rowOf_40 (fun h6 => ?_) (fun h6 => ?_)
      · refine J_iconst (pc := 51) hX (v := (-1 : Int32)) (by decide) dX7_rowOf_51 ?_
        refine J_istore (pc := 52) hX (lo' := [(5, ji (-1 : Int32)), (4, ji v3), (0, jr t0), (1, ji p0), (2, ji p1), (3, ji p2)]) (by decide) rfl dX7_rowOf_52 ?_
        refine J_iload_n (pc := 54) hX 5 rfl dX7_rowOf_54 ?_
        refine J_iconst (pc := 55) hX (v := (1 : Int32)) (by decide) dX7_rowOf_55 ?_
        refine J_vjoin (fun kq (y8 : Int32) => J Y Z 10 Qf (kq) 64 [(5, ji (-1 : Int32)), (4, ji v3), (0, jr t0), (1, ji p0), (2, ji p1), (3, ji p2)] [ji y8] 0 0 NC shC rfC I0 L0) (fun y8 => ?_) (fun hj => ?_)
        · try dsimp only
          refine J_istore (pc := 64) hX (lo' := [(6, ji y8), (5, ji (-1 : Int32)), (4, ji v3), (0, jr t0), (1, ji p0), (2, ji p1), (3, ji p2)]) (by decide) rfl dX7_rowOf_64 ?_
          refine J_iconst (pc := 66) hX (v := (0 : Int32)) (by decide) dX7_rowOf_66 ?_
          refine J_istore (pc := 67) hX (lo' := [(7, ji (0 : Int32)), (6, ji y8), (5, ji (-1 : Int32)), (4, ji v3), (0, jr t0), (1, ji p0), (2, ji p1), (3, ji p2)]) (by decide) rfl dX7_rowOf_67 ?_
          refine J_join (fun (k10 : Int32 → Option (Int32 × jI)) => ∀ (v9 : Int32), J Y Z 10 Qf (k10 v9) 100 [(0, jr t0), (1, ji p0), (2, ji p1), (3, ji p2), (5, ji (-1 : Int32)), (6, ji v9)] [] 0 0 NC shC rfC I0 L0) ?_ (fun k10 hk10 => ?_)
          · intro v9
            try dsimp only
            refine J_iconst (pc := 100) hX (v := (0 : Int32)) (by decide) dX7_rowOf_100 ?_
            refine J_istore (pc := 101) hX (lo' := [(7, ji (0 : Int32)), (0, jr t0), (1, ji p0), (2, ji p1), (3, ji p2), (5, ji (-1 : Int32)), (6, ji v9)]) (by decide) rfl dX7_rowOf_101 ?_
            refine J_join (fun (k13 : Int32 → Int32 → Option (Int32 × jI)) => ∀ (v11 : Int32) (v12 : Int32), J Y Z 10 Qf (k13 v11 v12) 193 [(3, ji p2), (5, ji v11), (6, ji v12)] [] 0 0 NC shC rfC I0 L0) ?_ (fun k13 hk13 => ?_)
            · intro v11 v12
              try dsimp only
              refine J_iload_n (pc := 193) hX 0 rfl dX7_rowOf_193 ?_
              refine J_iconst (pc := 194) hX (v := (1 : Int32)) (by decide) dX7_rowOf_194 ?_
              refine J_icmp_ne (pc := 195) hX (tgt := 203) (by decide) dX7_rowOf_195 (fun h14 => ?_) (fun h14 => ?_)
              · refine J_iload (pc := 203) hX 1 rfl dX7_rowOf_203 ?_
                exact J_iret (pc := 205) hX (hQ _) dX7_rowOf_205
              · refine J_iload (pc := 198) hX 2 rfl dX7_rowOf_198 ?_
                refine J_goto (pc := 200) hX (tgt := 205) (by decide) dX7_rowOf_200 ?_
                exact J_iret (pc := 205) hX (hQ _) dX7_rowOf_205
            have lhg18 : ∀ mq : Nat, ∀ (v15 : Int32) (v16 : Int32) (v17 : Int32), J Y Z 10 Qf (jfx (X7_rowOf_F2 t0 p0 p1 p2 L0 k13) (fun _ _ _ => none) mq v15 v16 v17) 103 [(0, jr t0), (1, ji p0), (2, ji p1), (3, ji p2), (5, ji v15), (6, ji v16), (7, ji v17)] [] 0 0 NC shC rfC I0 L0 := by
              intro mq
              refine jfx_J (fun (_ : Nat) (g18 : Int32 → Int32 → Int32 → Option (Int32 × jI)) => ∀ (v15 : Int32) (v16 : Int32) (v17 : Int32), J Y Z 10 Qf (g18 v15 v16 v17) 103 [(0, jr t0), (1, ji p0), (2, ji p1), (3, ji p2), (5, ji v15), (6, ji v16), (7, ji v17)] [] 0 0 NC shC rfC I0 L0) ?_ (fun _ g18 hg18 => ?_) mq
              · intro v15 v16 v17
                exact J_none
              intro v15 v16 v17
              unfold X7_rowOf_F2
              try dsimp only
              refine J_iload (pc := 103) hX 6 rfl dX7_rowOf_103 ?_
              refine J_bipush (pc := 105) hX (v := (64 : Int32)) (by decide) dX7_rowOf_105 ?_
              refine J_icmp_ge (pc := 107) hX (tgt := 193) (by decide) dX7_rowOf_107 (fun h19 => ?_) (fun h19 => ?_)
              · refine J_sub [3, 4, 5] rfl ?_
                exact hk13 v15 v16
              · refine J_iload_n (pc := 110) hX 3 rfl dX7_rowOf_110 ?_
                refine J_iconst (pc := 111) hX (v := (2 : Int32)) (by decide) dX7_rowOf_111 ?_
                refine J_icmp_ne (pc := 112) hX (tgt := 193) (by decide) dX7_rowOf_112 (fun h20 => ?_) (fun h20 => ?_)
                · refine J_sub [3, 4, 5] rfl ?_
                  exact hk13 v15 v16
                · refine J_iconst (pc := 115) hX (v := (0 : Int32)) (by decide) dX7_rowOf_115 ?_
                  refine J_istore (pc := 116) hX (lo' := [(8, ji (0 : Int32)), (0, jr t0), (1, ji p0), (2, ji p1), (3, ji p2), (5, ji v15), (6, ji v16), (7, ji v17)]) (by decide) rfl dX7_rowOf_116 ?_
                  refine J_iconst (pc := 118) hX (v := (0 : Int32)) (by decide) dX7_rowOf_118 ?_
                  refine J_istore (pc := 119) hX (lo' := [(9, ji (0 : Int32)), (8, ji (0 : Int32)), (0, jr t0), (1, ji p0), (2, ji p1), (3, ji p2), (5, ji v15), (6, ji v16), (7, ji v17)]) (by decide) rfl dX7_rowOf_119 ?_
                  refine J_join (fun (k22 : Int32 → Option (Int32 × jI)) => ∀ (v21 : Int32), J Y Z 10 Qf (k22 v21) 162 [(0, jr t0), (1, ji p0), (2, ji p1), (3, ji p2), (5, ji v15), (6, ji v16), (7, ji v17), (8, ji v21)] [] 0 0 NC shC rfC I0 L0) ?_ (fun k22 hk22 => ?_)
                  · intro v21
                    try dsimp only
                    refine J_iload (pc := 162) hX 7 rfl dX7_rowOf_162 ?_
                    refine J_iload (pc := 164) hX 5 rfl dX7_rowOf_164 ?_
                    refine J_vjoin (fun kq (y24 : Int32) => J Y Z 10 Qf (kq) 176 [(0, jr t0), (1, ji p0), (2, ji p1), (3, ji p2), (5, ji v15), (6, ji v16), (7, ji v17), (8, ji v21)] [ji y24] 0 0 NC shC rfC I0 L0) (fun y24 => ?_) (fun hj => ?_)
                    · try dsimp only
                      refine J_istore (pc := 176) hX (lo' := [(5, ji y24), (0, jr t0), (1, ji p0), (2, ji p1), (3, ji p2), (6, ji v16), (7, ji v17), (8, ji v21)]) (by decide) rfl dX7_rowOf_176 ?_
                      refine J_iload (pc := 178) hX 5 rfl dX7_rowOf_178 ?_
                      refine J_iload (pc := 180) hX 7 rfl dX7_rowOf_180 ?_
                      refine J_mmax (pc := 182) hX m_X7_255 ⟨by decide, by decide⟩ ⟨Nat.le_of_ble_eq_true rfl, Nat.le_of_ble_eq_true rfl⟩ (Nat.le_of_ble_eq_true rfl) dX7_rowOf_182 ?_
                      refine J_leti (fun y25 => ?_)
                      refine J_istore (pc := 185) hX (lo' := [(6, ji y25), (5, ji y24), (0, jr t0), (1, ji p0), (2, ji p1), (3, ji p2), (7, ji v17), (8, ji v21)]) (by decide) rfl dX7_rowOf_185 ?_
                      refine J_iinc (pc := 187) hX (v := (v17 + (1 : Int32))) (lo' := [(7, ji (v17 + (1 : Int32))), (6, ji y25), (5, ji y24), (0, jr t0), (1, ji p0), (2, ji p1), (3, ji p2), (8, ji v21)]) 6 rfl (by rfl) (by decide) rfl dX7_rowOf_187 ?_
                      refine J_goto (pc := 190) hX (tgt := 103) (by decide) dX7_rowOf_190 ?_
                      refine J_sub [3, 4, 5, 6, 2, 1, 0] rfl ?_
                      exact hg18 y24 y25 (v17 + (1 : Int32))
                    try dsimp only at hj
                    refine J_icmp_leV (pc := 166) hX (tgt := 174) (by decide) dX7_rowOf_166 (fun h23 => ?_) (fun h23 => ?_)
                    · refine J_iload (pc := 174) hX 4 rfl dX7_rowOf_174 ?_
                      exact hj _
                    · refine J_iload (pc := 169) hX 6 rfl dX7_rowOf_169 ?_
                      refine J_goto (pc := 171) hX (tgt := 176) (by decide) dX7_rowOf_171 ?_
                      exact hj _
                  have lhg28 : ∀ mq : Nat, ∀ (v26 : Int32) (v27 : Int32), J Y Z 10 Qf (jfx (X7_rowOf_F1 t0 p0 p1 L0 v17 k22) (fun _ _ => none) mq v26 v27) 121 [(0, jr t0), (1, ji p0), (2, ji p1), (3, ji p2), (5, ji v15), (6, ji v16), (7, ji v17), (8, ji v26), (9, ji v27)] [] 0 0 NC shC rfC I0 L0 := by
                    intro mq
                    refine jfx_J (fun (_ : Nat) (g28 : Int32 → Int32 → Option (Int32 × jI)) => ∀ (v26 : Int32) (v27 : Int32), J Y Z 10 Qf (g28 v26 v27) 121 [(0, jr t0), (1, ji p0), (2, ji p1), (3, ji p2), (5, ji v15), (6, ji v16), (7, ji v17), (8, ji v26), (9, ji v27)] [] 0 0 NC shC rfC I0 L0) ?_ (fun _ g28 hg28 => ?_) mq
                    · intro v26 v27
                      exact J_none
                    intro v26 v27
                    unfold X7_rowOf_F1
                    try dsimp only
                    refine J_iload (pc := 121) hX 8 rfl dX7_rowOf_121 ?_
                    refine J_iload_n (pc := 123) hX 2 rfl dX7_rowOf_123 ?_
                    refine J_icmp_ge (pc := 124) hX (tgt := 162) (by decide) dX7_rowOf_124 (fun h29 => ?_) (fun h29 => ?_)
                    · refine J_sub [0, 1, 2, 3, 4, 5, 6, 7] rfl ?_
                      exact hk22 v26
                    · refine J_iload (pc := 127) hX 7 rfl dX7_rowOf_127 ?_
                      refine J_aload_n (pc := 129) hX 0 rfl dX7_rowOf_129 ?_
                      refine g_X7_31 (pc := 130) hX ht0 dX7_rowOf_130 ?_
                      refine J_bipush (pc := 133) hX (v := (40 : Int32)) (by decide) dX7_rowOf_133 ?_
                      refine J_iload_n (pc := 135) hX 1 rfl dX7_rowOf_135 ?_
                      refine J_imul (pc := 136) hX dX7_rowOf_136 ?_
                      refine J_iload (pc := 137) hX 8 rfl dX7_rowOf_137 ?_
                      refine J_iadd (pc := 139) hX dX7_rowOf_139 ?_
                      refine J_lald (pc := 140) hX (N := 320) (fs_7_13 t0 ht0) (by decide) dX7_rowOf_140 (fun h30 => ?_)
                      refine J_iload (pc := 141) hX 6 rfl dX7_rowOf_141 ?_
                      refine J_i2l (pc := 143) hX dX7_rowOf_143 ?_
                      refine J_lcmp (pc := 144) hX dX7_rowOf_144 ?_
                      refine J_vjoin (fun kq (y32 : Int32) => J Y Z 10 Qf (kq) 153 [(0, jr t0), (1, ji p0), (2, ji p1), (3, ji p2), (5, ji v15), (6, ji v16), (7, ji v17), (8, ji v26), (9, ji v27)] [ji y32, ji v26] 0 0 NC shC rfC I0 L0) (fun y32 => ?_) (fun hj => ?_)
                      · try dsimp only
                        refine J_iadd (pc := 153) hX dX7_rowOf_153 ?_
                        refine J_leti (fun y33 => ?_)
                        refine J_istore (pc := 154) hX (lo' := [(8, ji y33), (0, jr t0), (1, ji p0), (2, ji p1), (3, ji p2), (5, ji v15), (6, ji v16), (7, ji v17), (9, ji v27)]) (by decide) rfl dX7_rowOf_154 ?_
                        refine J_iinc (pc := 156) hX (v := (v27 + (1 : Int32))) (lo' := [(9, ji (v27 + (1 : Int32))), (8, ji y33), (0, jr t0), (1, ji p0), (2, ji p1), (3, ji p2), (5, ji v15), (6, ji v16), (7, ji v17)]) 8 rfl (by rfl) (by decide) rfl dX7_rowOf_156 ?_
                        refine J_goto (pc := 159) hX (tgt := 121) (by decide) dX7_rowOf_159 ?_
                        refine J_sub [2, 3, 4, 5, 6, 7, 8, 1, 0] rfl ?_
                        exact hg28 y33 (v27 + (1 : Int32))
                      try dsimp only at hj
                      refine J_if_neV (pc := 145) hX (tgt := 152) (by decide) dX7_rowOf_145 (fun h31 => ?_) (fun h31 => ?_)
                      · refine J_iconst (pc := 152) hX (v := (0 : Int32)) (by decide) dX7_rowOf_152 ?_
                        exact hj _
                      · refine J_iconst (pc := 148) hX (v := (1 : Int32)) (by decide) dX7_rowOf_148 ?_
                        refine J_goto (pc := 149) hX (tgt := 153) (by decide) dX7_rowOf_149 ?_
                        exact hj _
                  refine J_sub [2, 3, 4, 5, 6, 7, 8, 1, 0] rfl ?_
                  exact lhg28 1000 (0 : Int32) (0 : Int32)
            refine J_sub [1, 2, 3, 4, 5, 6, 0] rfl ?_
            exact lhg18 1000 (-1 : Int32) v9 (0 : Int32)
          have lhg36 : ∀ mq : Nat, ∀ (v34 : Int32) (v35 : Int32), J Y Z 10 Qf (jfx (X7_rowOf_F3 t0 p0 p1 p2 L0 k10) (fun _ _ => none) mq v34 v35) 69 [(0, jr t0), (1, ji p0), (2, ji p1), (3, ji p2), (5, ji (-1 : Int32)), (6, ji v34), (7, ji v35)] [] 0 0 NC shC rfC I0 L0 := by
            intro mq
            refine jfx_J (fun (_ : Nat) (g36 : Int32 → Int32 → Option (Int32 × jI)) => ∀ (v34 : Int32) (v35 : Int32), J Y Z 10 Qf (g36 v34 v35) 69 [(0, jr t0), (1, ji p0), (2, ji p1), (3, ji p2), (5, ji (-1 : Int32)), (6, ji v34), (7, ji v35)] [] 0 0 NC shC rfC I0 L0) ?_ (fun _ g36 hg36 => ?_) mq
            · intro v34 v35
              exact J_none
            intro v34 v35
            unfold X7_rowOf_F3
            try dsimp only
            refine J_iload (pc := 69) hX 6 rfl dX7_rowOf_69 ?_
            refine J_iload_n (pc := 71) hX 2 rfl dX7_rowOf_71 ?_
            refine J_icmp_ge (pc := 72) hX (tgt := 100) (by decide) dX7_rowOf_72 (fun h37 => ?_) (fun h37 => ?_)
            · refine J_sub [0, 1, 2, 3, 4, 5] rfl ?_
              exact hk10 v34
            · refine J_iload_n (pc := 75) hX 3 rfl dX7_rowOf_75 ?_
              refine J_iconst (pc := 76) hX (v := (1 : Int32)) (by decide) dX7_rowOf_76 ?_
              refine J_icmp_ne (pc := 77) hX (tgt := 100) (by decide) dX7_rowOf_77 (fun h38 => ?_) (fun h38 => ?_)
              · refine J_sub [0, 1, 2, 3, 4, 5] rfl ?_
                exact hk10 v34
              · refine J_iload (pc := 80) hX 5 rfl dX7_rowOf_80 ?_
                refine J_aload_n (pc := 82) hX 0 rfl dX7_rowOf_82 ?_
                refine J_iload_n (pc := 83) hX 1 rfl dX7_rowOf_83 ?_
                refine J_iload (pc := 84) hX 6 rfl dX7_rowOf_84 ?_
                refine J_call1 (fun y39 e40 => ?_)
                refine jrun_i (pc := 86) (jRunV hX s_X7_252 (ci := 7) (T := TX7) (N := 20) (As := [ji p0, ji v35]) (rest := [ji v34]) rfl (by decide) (C_X7_reused Y hz0 t0 ht0 p0 v35 I0 L0 y39 e40) ht0 rfl rfl ⟨by decide, by decide⟩ ⟨Nat.le_of_ble_eq_true rfl, Nat.le_of_ble_eq_true rfl⟩ (Nat.le_of_ble_eq_true rfl) dX7_rowOf_86) ?_
                refine J_mmax (pc := 89) hX m_X7_255 ⟨by decide, by decide⟩ ⟨Nat.le_of_ble_eq_true rfl, Nat.le_of_ble_eq_true rfl⟩ (Nat.le_of_ble_eq_true rfl) dX7_rowOf_89 ?_
                refine J_leti (fun y41 => ?_)
                refine J_istore (pc := 92) hX (lo' := [(6, ji y41), (0, jr t0), (1, ji p0), (2, ji p1), (3, ji p2), (5, ji (-1 : Int32)), (7, ji v35)]) (by decide) rfl dX7_rowOf_92 ?_
                refine J_iinc (pc := 94) hX (v := (v35 + (1 : Int32))) (lo' := [(7, ji (v35 + (1 : Int32))), (6, ji y41), (0, jr t0), (1, ji p0), (2, ji p1), (3, ji p2), (5, ji (-1 : Int32))]) 6 rfl (by rfl) (by decide) rfl dX7_rowOf_94 ?_
                refine J_goto (pc := 97) hX (tgt := 69) (by decide) dX7_rowOf_97 ?_
                refine J_sub [2, 3, 4, 5, 6, 1, 0] rfl ?_
                exact hg36 y41 (v35 + (1 : Int32))
          refine J_sub [4, 5, 6, 7, 2, 1, 0] rfl ?_
          exact lhg36 1000 y8 (0 : Int32)
        try dsimp only at hj
        refine J_icmp_neV (pc := 56) hX (tgt := 63) (by decide) dX7_rowOf_56 (fun h7 => ?_) (fun h7 => ?_)
        · refine J_iconst (pc := 63) hX (v := (0 : Int32)) (by decide) dX7_rowOf_63 ?_
          exact hj _
        · refine J_iconst (pc := 59) hX (v := (-1 : Int32)) (by decide) dX7_rowOf_59 ?_
          refine J_goto (pc := 60) hX (tgt := 64) (by decide) dX7_rowOf_60 ?_
          exact hj _
      · refine J_aload_n (pc := 43) hX 1 rfl dX7_rowOf_43 ?_
        refine J_iload_n (pc := 44) hX 2 rfl dX7_rowOf_44 ?_
        refine J_iconst (pc := 45) hX (v := (0 : Int32)) (by decide) dX7_rowOf_45 ?_
        refine J_iload_n (pc := 46) hX 3 rfl dX7_rowOf_46 ?_
        refine J_call1 (fun y42 e43 => ?_)
        refine jrun_i (pc := 47) (jRunV hX s_X7_249 (ci := 7) (T := TX7) (N := 20) (As := [ji p0, ji (0 : Int32), ji p1]) (rest := []) rfl (by decide) (C_X7_unlike Y hz0 t0 ht0 p0 (0 : Int32) p1 I0 L0 y42 e43) ht0 rfl rfl ⟨by decide, by decide⟩ ⟨Nat.le_of_ble_eq_true rfl, Nat.le_of_ble_eq_true rfl⟩ (Nat.le_of_ble_eq_true rfl) dX7_rowOf_47) ?_
        exact J_iret (pc := 50) hX (hQ _) dX7_rowOf_50
    · refine J_aload_n (pc := 32) hX 1 rfl dX7_rowOf_32 ?_
      refine J_iload (pc := 33) hX 0 rfl dX7_rowOf_33 ?_
      refine J_call2 (fun y44 I45 e46 => ?_)
      refine jrun_i (pc := 35) (jRunV hX s_X7_127 (ci := 7) (T := TX7) (N := 20) (As := [ji v3]) (rest := []) rfl (by decide) (C_X7_refuses Y hz0 t0 ht0 v3 I0 L0 y44 I45 e46) ht0 rfl rfl ⟨by decide, by decide⟩ ⟨Nat.le_of_ble_eq_true rfl, Nat.le_of_ble_eq_true rfl⟩ (Nat.le_of_ble_eq_true rfl) dX7_rowOf_35) ?_
      exact J_iret (pc := 38) hX (hQ _) dX7_rowOf_38
  refine J_if_eq (pc := 9) hX (tgt := 23) (by decide) dX7_rowOf_9 (fun h47 => ?_) (fun h47 => ?_)
  · refine J_bipush (pc := 23) hX (v := (-52 : Int32)) (by decide) dX7_rowOf_23 ?_
    exact hk4 (-52 : Int32)
  · refine J_aload_n (pc := 12) hX 0 rfl dX7_rowOf_12 ?_
    refine J_iload_n (pc := 13) hX 1 rfl dX7_rowOf_13 ?_
    refine J_iload_n (pc := 14) hX 2 rfl dX7_rowOf_14 ?_
    refine J_bipush (pc := 15) hX (v := (40 : Int32)) (by decide) dX7_rowOf_15 ?_
    refine J_call1 (fun y48 e49 => ?_)
    refine jrun_i (pc := 17) (jRunV hX s_X7_233 (ci := 7) (T := TX7) (N := 20) (As := [ji p0, ji p1, ji (40 : Int32)]) (rest := []) rfl (by decide) (C_X7_wrongRow Y hz0 t0 ht0 p0 p1 (40 : Int32) I0 L0 y48 e49) ht0 rfl rfl ⟨by decide, by decide⟩ ⟨Nat.le_of_ble_eq_true rfl, Nat.le_of_ble_eq_true rfl⟩ (Nat.le_of_ble_eq_true rfl) dX7_rowOf_17) ?_
    refine J_goto (pc := 20) hX (tgt := 25) (by decide) dX7_rowOf_20 ?_
    exact hk4 y48
theorem C_X7_rowOf (Y : jY) (hz0 : Y.zf = false) (t0 : Nat) (ht0 : shC t0 = 8) (p0 : Int32) (p1 : Int32) (p2 : Int32) (I0 : jI) (L0 : jL) (r : Int32) (I1 : jI) (h : X7_rowOf t0 p0 p1 p2 I0 L0 = some (r, I1)) : jMet Y yX7_rowOf cX7_rowOf 10 (some .int) 4 153 0 0 [jr t0, ji p0, ji p1, ji p2] NC shC rfC I0 L0 (some (ji r)) NC shC rfC I1 L0 :=
  jmet_of _ _ h (fun Z r => jQ Y Z 0 0 (some (ji r.1)) NC shC rfC r.2 L0) (fun _ => rfl) (by decide) (Nat.le_of_ble_eq_true rfl) (fun Z hX => W_X7_rowOf hz0 t0 ht0 p0 p1 p2 I0 L0 hX (fun _ => rfl))
def X7_judge_F1 (t0 : Nat) (p0 : Int32) (p1 : Int32) (L0 : jL) (k8 : Int32 → jI → Option (Int32 × jI)) (g14 : Int32 → Int32 → jI → Option (Int32 × jI)) : Int32 → Int32 → jI → Option (Int32 × jI) := fun (v11 : Int32) (v12 : Int32) (I13 : jI) =>
if p1 ≤ v12 then (
k8 v11 I13)
else (
if 0 ≤ v11 then (
k8 v11 I13)
else (
if jin (((40 : Int32) * p0) + ((2 : Int32) * v12)) 320 then (
jb2 (X7_reads t0 (((L0 (rfC t0 13) ((((40 : Int32) * p0) + ((2 : Int32) * v12))).toNatClampNeg)).toInt32) I13) (fun (y18 : Int32) (I19 : jI) =>
if jin ((((40 : Int32) * p0) + ((2 : Int32) * v12)) + (1 : Int32)) 320 then (
jlet (if (lg_cmp (L0 (rfC t0 13) (((((40 : Int32) * p0) + ((2 : Int32) * v12)) + (1 : Int32))).toNatClampNeg) (((I19 t0 6)).toInt64)) = 0 then v11 else v12) (fun (y23 : Int32) =>
g14 y23 (v12 + (1 : Int32)) I19)) else none)) else none))
def X7_judge (t0 : Nat) (p0 : Int32) (p1 : Int32) (I0 : jI) (L0 : jL) : Option (Int32 × jI) :=
(X7_wrongRow t0 p0 p1 (20 : Int32) I0 L0).bind (fun (y1 : Int32) =>
if y1 = 0 then (
(X7_pours (rfC t0 0) (rfC t0 2) I0).bind (fun (I4 : jI) =>
jlet (fun (v6 : Int32) (I7 : jI) =>
(X7_pours (rfC t0 2) (rfC t0 0) I7).bind (fun (I9 : jI) =>
some (v6, I9))) (fun (k8 : Int32 → jI → Option (Int32 × jI)) =>
jfx (X7_judge_F1 t0 p0 p1 L0 k8) (fun _ _ _ => none) 1000 (-1 : Int32) (0 : Int32) I4)))
else (
jb2 (X7_refuses t0 y1 I0) (fun (y24 : Int32) (I25 : jI) =>
some (y24, I25))))
set_option maxRecDepth 20000 in
set_option maxHeartbeats 4000000 in
theorem W_X7_judge {Y : jY} {Z : jZ} {Qf : Int32 × jI → State → Prop} (hz0 : Y.zf = false) (t0 : Nat) (ht0 : shC t0 = 8) (p0 : Int32) (p1 : Int32) (I0 : jI) (L0 : jL) (hX : jOK Y Z RX7 cX7_judge 6 "judge" (some .int) 48 2247 0 0) (hQ : ∀ r : Int32 × jI, Qf r = jQ Y Z 0 0 (some (ji r.1)) NC shC rfC r.2 L0) : J Y Z 6 Qf (X7_judge t0 p0 p1 I0 L0) 0 [(0, jr t0), (1, ji p0), (2, ji p1)] [] 0 0 NC shC rfC I0 L0 := by
  unfold X7_judge
  refine J_aload_n (pc := 0) hX 0 rfl dX7_judge_0 ?_
  refine J_iload_n (pc := 1) hX 1 rfl dX7_judge_1 ?_
  refine J_iload_n (pc := 2) hX 2 rfl dX7_judge_2 ?_
  refine J_bipush (pc := 3) hX (v := (20 : Int32)) (by decide) dX7_judge_3 ?_
  refine J_call1 (fun y1 e2 => ?_)
  refine jrun_i (pc := 5) (jRunV hX s_X7_233 (ci := 7) (T := TX7) (N := 20) (As := [ji p0, ji p1, ji (20 : Int32)]) (rest := []) rfl (by decide) (C_X7_wrongRow Y hz0 t0 ht0 p0 p1 (20 : Int32) I0 L0 y1 e2) ht0 rfl rfl ⟨by decide, by decide⟩ ⟨Nat.le_of_ble_eq_true rfl, Nat.le_of_ble_eq_true rfl⟩ (Nat.le_of_ble_eq_true rfl) dX7_judge_5) ?_
  refine J_istore_n (pc := 8) hX (lo' := [(3, ji y1), (0, jr t0), (1, ji p0), (2, ji p1)]) (by decide) rfl dX7_judge_8 ?_
  refine J_iload_n (pc := 9) hX 0 rfl dX7_judge_9 ?_
  refine J_if_eq (pc := 10) hX (tgt := 19) (by decide) dX7_judge_10 (fun h3 => ?_) (fun h3 => ?_)
  · refine J_aload_n (pc := 19) hX 1 rfl dX7_judge_19 ?_
    refine g_X7_7 (pc := 20) hX ht0 dX7_judge_20 ?_
    refine J_aload_n (pc := 23) hX 1 rfl dX7_judge_23 ?_
    refine g_X7_16 (pc := 24) hX ht0 dX7_judge_24 ?_
    refine J_call1 (fun I4 e5 => ?_)
    refine jrun_v (pc := 27) (jRunS hX s_X7_217 (As := [jr (rfC t0 0), jr (rfC t0 2)]) (rest := []) (C_X7_pours Y hz0 (rfC t0 0) (fs_7_0 t0 ht0) (rfC t0 2) (fs_7_2 t0 ht0) I0 L0 I4 e5) rfl rfl ⟨by decide, by decide⟩ ⟨Nat.le_of_ble_eq_true rfl, Nat.le_of_ble_eq_true rfl⟩ (Nat.le_of_ble_eq_true rfl) dX7_judge_27) ?_
    refine J_iconst (pc := 30) hX (v := (-1 : Int32)) (by decide) dX7_judge_30 ?_
    refine J_istore (pc := 31) hX (lo' := [(4, ji (-1 : Int32)), (3, ji y1), (0, jr t0), (1, ji p0), (2, ji p1)]) (by decide) rfl dX7_judge_31 ?_
    refine J_iconst (pc := 33) hX (v := (0 : Int32)) (by decide) dX7_judge_33 ?_
    refine J_istore (pc := 34) hX (lo' := [(5, ji (0 : Int32)), (4, ji (-1 : Int32)), (3, ji y1), (0, jr t0), (1, ji p0), (2, ji p1)]) (by decide) rfl dX7_judge_34 ?_
    refine J_join (fun (k8 : Int32 → jI → Option (Int32 × jI)) => ∀ (v6 : Int32) (I7 : jI), J Y Z 6 Qf (k8 v6 I7) 107 [(0, jr t0), (4, ji v6)] [] 0 0 NC shC rfC I7 L0) ?_ (fun k8 hk8 => ?_)
    · intro v6 I7
      try dsimp only
      refine J_aload_n (pc := 107) hX 0 rfl dX7_judge_107 ?_
      refine g_X7_16 (pc := 108) hX ht0 dX7_judge_108 ?_
      refine J_aload_n (pc := 111) hX 0 rfl dX7_judge_111 ?_
      refine g_X7_7 (pc := 112) hX ht0 dX7_judge_112 ?_
      refine J_call1 (fun I9 e10 => ?_)
      refine jrun_v (pc := 115) (jRunS hX s_X7_217 (As := [jr (rfC t0 2), jr (rfC t0 0)]) (rest := []) (C_X7_pours Y hz0 (rfC t0 2) (fs_7_2 t0 ht0) (rfC t0 0) (fs_7_0 t0 ht0) I7 L0 I9 e10) rfl rfl ⟨by decide, by decide⟩ ⟨Nat.le_of_ble_eq_true rfl, Nat.le_of_ble_eq_true rfl⟩ (Nat.le_of_ble_eq_true rfl) dX7_judge_115) ?_
      refine J_iload (pc := 118) hX 1 rfl dX7_judge_118 ?_
      exact J_iret (pc := 120) hX (hQ _) dX7_judge_120
    have lhg14 : ∀ mq : Nat, ∀ (v11 : Int32) (v12 : Int32) (I13 : jI), J Y Z 6 Qf (jfx (X7_judge_F1 t0 p0 p1 L0 k8) (fun _ _ _ => none) mq v11 v12 I13) 36 [(0, jr t0), (1, ji p0), (2, ji p1), (4, ji v11), (5, ji v12)] [] 0 0 NC shC rfC I13 L0 := by
      intro mq
      refine jfx_J (fun (_ : Nat) (g14 : Int32 → Int32 → jI → Option (Int32 × jI)) => ∀ (v11 : Int32) (v12 : Int32) (I13 : jI), J Y Z 6 Qf (g14 v11 v12 I13) 36 [(0, jr t0), (1, ji p0), (2, ji p1), (4, ji v11), (5, ji v12)] [] 0 0 NC shC rfC I13 L0) ?_ (fun _ g14 hg14 => ?_) mq
      · intro v11 v12 I13
        exact J_none
      intro v11 v12 I13
      unfold X7_judge_F1
      try dsimp only
      refine J_iload (pc := 36) hX 4 rfl dX7_judge_36 ?_
      refine J_iload_n (pc := 38) hX 2 rfl dX7_judge_38 ?_
      refine J_icmp_ge (pc := 39) hX (tgt := 107) (by decide) dX7_judge_39 (fun h15 => ?_) (fun h15 => ?_)
      · refine J_sub [0, 3] rfl ?_
        exact hk8 v11 I13
      · refine J_iload (pc := 42) hX 3 rfl dX7_judge_42 ?_
        refine J_if_ge (pc := 44) hX (tgt := 107) (by decide) dX7_judge_44 (fun h16 => ?_) (fun h16 => ?_)
        · refine J_sub [0, 3] rfl ?_
          exact hk8 v11 I13
        · refine J_aload_n (pc := 47) hX 0 rfl dX7_judge_47 ?_
          refine J_aload_n (pc := 48) hX 0 rfl dX7_judge_48 ?_
          refine g_X7_31 (pc := 49) hX ht0 dX7_judge_49 ?_
          refine J_bipush (pc := 52) hX (v := (40 : Int32)) (by decide) dX7_judge_52 ?_
          refine J_iload_n (pc := 54) hX 1 rfl dX7_judge_54 ?_
          refine J_imul (pc := 55) hX dX7_judge_55 ?_
          refine J_iconst (pc := 56) hX (v := (2 : Int32)) (by decide) dX7_judge_56 ?_
          refine J_iload (pc := 57) hX 4 rfl dX7_judge_57 ?_
          refine J_imul (pc := 59) hX dX7_judge_59 ?_
          refine J_iadd (pc := 60) hX dX7_judge_60 ?_
          refine J_lald (pc := 61) hX (N := 320) (fs_7_13 t0 ht0) (by decide) dX7_judge_61 (fun h17 => ?_)
          refine J_l2i (pc := 62) hX dX7_judge_62 ?_
          refine J_call2 (fun y18 I19 e20 => ?_)
          refine jrun_i (pc := 63) (jRunV hX s_X7_141 (ci := 7) (T := TX7) (N := 20) (As := [ji (((L0 (rfC t0 13) ((((40 : Int32) * p0) + ((2 : Int32) * v12))).toNatClampNeg)).toInt32)]) (rest := []) rfl (by decide) (C_X7_reads Y hz0 t0 ht0 (((L0 (rfC t0 13) ((((40 : Int32) * p0) + ((2 : Int32) * v12))).toNatClampNeg)).toInt32) I13 L0 y18 I19 e20) ht0 rfl rfl ⟨by decide, by decide⟩ ⟨Nat.le_of_ble_eq_true rfl, Nat.le_of_ble_eq_true rfl⟩ (Nat.le_of_ble_eq_true rfl) dX7_judge_63) ?_
          refine J_pop (pc := 66) hX rfl dX7_judge_66 ?_
          refine J_aload_n (pc := 67) hX 0 rfl dX7_judge_67 ?_
          refine g_X7_31 (pc := 68) hX ht0 dX7_judge_68 ?_
          refine J_bipush (pc := 71) hX (v := (40 : Int32)) (by decide) dX7_judge_71 ?_
          refine J_iload_n (pc := 73) hX 1 rfl dX7_judge_73 ?_
          refine J_imul (pc := 74) hX dX7_judge_74 ?_
          refine J_iconst (pc := 75) hX (v := (2 : Int32)) (by decide) dX7_judge_75 ?_
          refine J_iload (pc := 76) hX 4 rfl dX7_judge_76 ?_
          refine J_imul (pc := 78) hX dX7_judge_78 ?_
          refine J_iadd (pc := 79) hX dX7_judge_79 ?_
          refine J_iconst (pc := 80) hX (v := (1 : Int32)) (by decide) dX7_judge_80 ?_
          refine J_iadd (pc := 81) hX dX7_judge_81 ?_
          refine J_lald (pc := 82) hX (N := 320) (fs_7_13 t0 ht0) (by decide) dX7_judge_82 (fun h21 => ?_)
          refine J_aload_n (pc := 83) hX 0 rfl dX7_judge_83 ?_
          refine g_X7_98 (pc := 84) hX ht0 dX7_judge_84 ?_
          refine J_i2l (pc := 87) hX dX7_judge_87 ?_
          refine J_lcmp (pc := 88) hX dX7_judge_88 ?_
          refine J_vjoin (fun kq (y23 : Int32) => J Y Z 6 Qf (kq) 99 [(0, jr t0), (1, ji p0), (2, ji p1), (4, ji v11), (5, ji v12)] [ji y23] 0 0 NC shC rfC I19 L0) (fun y23 => ?_) (fun hj => ?_)
          · try dsimp only
            refine J_istore (pc := 99) hX (lo' := [(4, ji y23), (0, jr t0), (1, ji p0), (2, ji p1), (5, ji v12)]) (by decide) rfl dX7_judge_99 ?_
            refine J_iinc (pc := 101) hX (v := (v12 + (1 : Int32))) (lo' := [(5, ji (v12 + (1 : Int32))), (4, ji y23), (0, jr t0), (1, ji p0), (2, ji p1)]) 4 rfl (by rfl) (by decide) rfl dX7_judge_101 ?_
            refine J_goto (pc := 104) hX (tgt := 36) (by decide) dX7_judge_104 ?_
            refine J_sub [2, 3, 4, 1, 0] rfl ?_
            exact hg14 y23 (v12 + (1 : Int32)) I19
          try dsimp only at hj
          refine J_if_neV (pc := 89) hX (tgt := 97) (by decide) dX7_judge_89 (fun h22 => ?_) (fun h22 => ?_)
          · refine J_iload (pc := 97) hX 4 rfl dX7_judge_97 ?_
            exact hj _
          · refine J_iload (pc := 92) hX 3 rfl dX7_judge_92 ?_
            refine J_goto (pc := 94) hX (tgt := 99) (by decide) dX7_judge_94 ?_
            exact hj _
    refine J_sub [3, 4, 5, 1, 0] rfl ?_
    exact lhg14 1000 (-1 : Int32) (0 : Int32) I4
  · refine J_aload_n (pc := 13) hX 1 rfl dX7_judge_13 ?_
    refine J_iload_n (pc := 14) hX 0 rfl dX7_judge_14 ?_
    refine J_call2 (fun y24 I25 e26 => ?_)
    refine jrun_i (pc := 15) (jRunV hX s_X7_127 (ci := 7) (T := TX7) (N := 20) (As := [ji y1]) (rest := []) rfl (by decide) (C_X7_refuses Y hz0 t0 ht0 y1 I0 L0 y24 I25 e26) ht0 rfl rfl ⟨by decide, by decide⟩ ⟨Nat.le_of_ble_eq_true rfl, Nat.le_of_ble_eq_true rfl⟩ (Nat.le_of_ble_eq_true rfl) dX7_judge_15) ?_
    exact J_iret (pc := 18) hX (hQ _) dX7_judge_18
theorem C_X7_judge (Y : jY) (hz0 : Y.zf = false) (t0 : Nat) (ht0 : shC t0 = 8) (p0 : Int32) (p1 : Int32) (I0 : jI) (L0 : jL) (r : Int32) (I1 : jI) (h : X7_judge t0 p0 p1 I0 L0 = some (r, I1)) : jMet Y yX7_judge cX7_judge 6 (some .int) 48 2247 0 0 [jr t0, ji p0, ji p1] NC shC rfC I0 L0 (some (ji r)) NC shC rfC I1 L0 :=
  jmet_of _ _ h (fun Z r => jQ Y Z 0 0 (some (ji r.1)) NC shC rfC r.2 L0) (fun _ => rfl) (by decide) (Nat.le_of_ble_eq_true rfl) (fun Z hX => W_X7_judge hz0 t0 ht0 p0 p1 I0 L0 hX (fun _ => rfl))
def X7_past (t0 : Nat) (p0 : Int32) (p1 : Int32) (I0 : jI) : Option (Int32 × jI) :=
if jin (702 : Int32) 784 then (
(X7_isIn ((p0).toInt64) (0 : Int64) ((((I0 (rfC t0 0) ((702 : Int32)).toNatClampNeg) - (1 : Int32))).toInt64)).bind (fun (y2 : Int32) =>
if y2 = 0 then (
jb2 (X7_refuses t0 (-52 : Int32) I0) (fun (y5 : Int32) (I6 : jI) =>
some (y5, I6)))
else (
(X7_isIn ((p1).toInt64) (0 : Int64) (3 : Int64)).bind (fun (y8 : Int32) =>
if y8 = 0 then (
jb2 (X7_refuses t0 (-52 : Int32) I0) (fun (y11 : Int32) (I12 : jI) =>
some (y11, I12)))
else (
if jin (((704 : Int32) + ((4 : Int32) * p0)) + p1) 784 then (
some ((I0 (rfC t0 0) ((((704 : Int32) + ((4 : Int32) * p0)) + p1)).toNatClampNeg), I0)) else none))))) else none
set_option maxRecDepth 20000 in
set_option maxHeartbeats 4000000 in
theorem W_X7_past {Y : jY} {Z : jZ} {Qf : Int32 × jI → State → Prop} (hz0 : Y.zf = false) (t0 : Nat) (ht0 : shC t0 = 8) (p0 : Int32) (p1 : Int32) (I0 : jI) (L0 : jL) (hX : jOK Y Z RX7 cX7_past 3 "past" (some .int) 2 105 0 0) (hQ : ∀ r : Int32 × jI, Qf r = jQ Y Z 0 0 (some (ji r.1)) NC shC rfC r.2 L0) : J Y Z 3 Qf (X7_past t0 p0 p1 I0) 0 [(0, jr t0), (1, ji p0), (2, ji p1)] [] 0 0 NC shC rfC I0 L0 := by
  unfold X7_past
  refine J_iload_n (pc := 0) hX 1 rfl dX7_past_0 ?_
  refine J_i2l (pc := 1) hX dX7_past_1 ?_
  refine J_lconst (pc := 2) hX (v := (0 : Int64)) (by decide) dX7_past_2 ?_
  refine J_aload_n (pc := 3) hX 0 rfl dX7_past_3 ?_
  refine g_X7_7 (pc := 4) hX ht0 dX7_past_4 ?_
  refine J_sipush (pc := 7) hX (v := (702 : Int32)) (by decide) dX7_past_7 ?_
  refine J_iald (pc := 10) hX (N := 784) (fs_7_0 t0 ht0) (by decide) dX7_past_10 (fun h1 => ?_)
  refine J_iconst (pc := 11) hX (v := (1 : Int32)) (by decide) dX7_past_11 ?_
  refine J_isub (pc := 12) hX dX7_past_12 ?_
  refine J_i2l (pc := 13) hX dX7_past_13 ?_
  refine J_call1 (fun y2 e3 => ?_)
  refine jrun_i (pc := 14) (jRunS hX s_X7_47 (As := [jl ((p0).toInt64), jl (0 : Int64), jl ((((I0 (rfC t0 0) ((702 : Int32)).toNatClampNeg) - (1 : Int32))).toInt64)]) (rest := []) (C_X7_isIn Y hz0 ((p0).toInt64) (0 : Int64) ((((I0 (rfC t0 0) ((702 : Int32)).toNatClampNeg) - (1 : Int32))).toInt64) I0 L0 y2 e3) rfl rfl ⟨by decide, by decide⟩ ⟨Nat.le_of_ble_eq_true rfl, Nat.le_of_ble_eq_true rfl⟩ (Nat.le_of_ble_eq_true rfl) dX7_past_14) ?_
  refine J_if_eq (pc := 17) hX (tgt := 49) (by decide) dX7_past_17 (fun h4 => ?_) (fun h4 => ?_)
  · refine J_aload_n (pc := 49) hX 0 rfl dX7_past_49 ?_
    refine J_bipush (pc := 50) hX (v := (-52 : Int32)) (by decide) dX7_past_50 ?_
    refine J_call2 (fun y5 I6 e7 => ?_)
    refine jrun_i (pc := 52) (jRunV hX s_X7_127 (ci := 7) (T := TX7) (N := 20) (As := [ji (-52 : Int32)]) (rest := []) rfl (by decide) (C_X7_refuses Y hz0 t0 ht0 (-52 : Int32) I0 L0 y5 I6 e7) ht0 rfl rfl ⟨by decide, by decide⟩ ⟨Nat.le_of_ble_eq_true rfl, Nat.le_of_ble_eq_true rfl⟩ (Nat.le_of_ble_eq_true rfl) dX7_past_52) ?_
    exact J_iret (pc := 55) hX (hQ _) dX7_past_55
  · refine J_iload_n (pc := 20) hX 2 rfl dX7_past_20 ?_
    refine J_i2l (pc := 21) hX dX7_past_21 ?_
    refine J_lconst (pc := 22) hX (v := (0 : Int64)) (by decide) dX7_past_22 ?_
    refine J_ldc2 (pc := 23) hX q_X7_123 dX7_past_23 ?_
    refine J_call1 (fun y8 e9 => ?_)
    refine jrun_i (pc := 26) (jRunS hX s_X7_47 (As := [jl ((p1).toInt64), jl (0 : Int64), jl (3 : Int64)]) (rest := []) (C_X7_isIn Y hz0 ((p1).toInt64) (0 : Int64) (3 : Int64) I0 L0 y8 e9) rfl rfl ⟨by decide, by decide⟩ ⟨Nat.le_of_ble_eq_true rfl, Nat.le_of_ble_eq_true rfl⟩ (Nat.le_of_ble_eq_true rfl) dX7_past_26) ?_
    refine J_if_eq (pc := 29) hX (tgt := 49) (by decide) dX7_past_29 (fun h10 => ?_) (fun h10 => ?_)
    · refine J_aload_n (pc := 49) hX 0 rfl dX7_past_49 ?_
      refine J_bipush (pc := 50) hX (v := (-52 : Int32)) (by decide) dX7_past_50 ?_
      refine J_call2 (fun y11 I12 e13 => ?_)
      refine jrun_i (pc := 52) (jRunV hX s_X7_127 (ci := 7) (T := TX7) (N := 20) (As := [ji (-52 : Int32)]) (rest := []) rfl (by decide) (C_X7_refuses Y hz0 t0 ht0 (-52 : Int32) I0 L0 y11 I12 e13) ht0 rfl rfl ⟨by decide, by decide⟩ ⟨Nat.le_of_ble_eq_true rfl, Nat.le_of_ble_eq_true rfl⟩ (Nat.le_of_ble_eq_true rfl) dX7_past_52) ?_
      exact J_iret (pc := 55) hX (hQ _) dX7_past_55
    · refine J_aload_n (pc := 32) hX 0 rfl dX7_past_32 ?_
      refine g_X7_7 (pc := 33) hX ht0 dX7_past_33 ?_
      refine J_sipush (pc := 36) hX (v := (704 : Int32)) (by decide) dX7_past_36 ?_
      refine J_iconst (pc := 39) hX (v := (4 : Int32)) (by decide) dX7_past_39 ?_
      refine J_iload_n (pc := 40) hX 1 rfl dX7_past_40 ?_
      refine J_imul (pc := 41) hX dX7_past_41 ?_
      refine J_iadd (pc := 42) hX dX7_past_42 ?_
      refine J_iload_n (pc := 43) hX 2 rfl dX7_past_43 ?_
      refine J_iadd (pc := 44) hX dX7_past_44 ?_
      refine J_iald (pc := 45) hX (N := 784) (fs_7_0 t0 ht0) (by decide) dX7_past_45 (fun h14 => ?_)
      refine J_goto (pc := 46) hX (tgt := 55) (by decide) dX7_past_46 ?_
      exact J_iret (pc := 55) hX (hQ _) dX7_past_55
theorem C_X7_past (Y : jY) (hz0 : Y.zf = false) (t0 : Nat) (ht0 : shC t0 = 8) (p0 : Int32) (p1 : Int32) (I0 : jI) (L0 : jL) (r : Int32) (I1 : jI) (h : X7_past t0 p0 p1 I0 = some (r, I1)) : jMet Y yX7_past cX7_past 3 (some .int) 2 105 0 0 [jr t0, ji p0, ji p1] NC shC rfC I0 L0 (some (ji r)) NC shC rfC I1 L0 :=
  jmet_of _ _ h (fun Z r => jQ Y Z 0 0 (some (ji r.1)) NC shC rfC r.2 L0) (fun _ => rfl) (by decide) (Nat.le_of_ble_eq_true rfl) (fun Z hX => W_X7_past hz0 t0 ht0 p0 p1 I0 L0 hX (fun _ => rfl))
def X7_often (t0 : Nat) (p0 : Int32) (I0 : jI) : Option (Int32 × jI) :=
(X7_isPage ((p0).toInt64)).bind (fun (y1 : Int32) =>
if y1 = 0 then (
jb2 (X7_refuses t0 (-52 : Int32) I0) (fun (y4 : Int32) (I5 : jI) =>
some (y4, I5)))
else (
if jin ((64 : Int32) + p0) 784 then (
some ((I0 (rfC t0 0) (((64 : Int32) + p0)).toNatClampNeg), I0)) else none))
set_option maxRecDepth 20000 in
set_option maxHeartbeats 4000000 in
theorem W_X7_often {Y : jY} {Z : jZ} {Qf : Int32 × jI → State → Prop} (hz0 : Y.zf = false) (t0 : Nat) (ht0 : shC t0 = 8) (p0 : Int32) (I0 : jI) (L0 : jL) (hX : jOK Y Z RX7 cX7_often 2 "often" (some .int) 3 126 0 0) (hQ : ∀ r : Int32 × jI, Qf r = jQ Y Z 0 0 (some (ji r.1)) NC shC rfC r.2 L0) : J Y Z 2 Qf (X7_often t0 p0 I0) 0 [(0, jr t0), (1, ji p0)] [] 0 0 NC shC rfC I0 L0 := by
  unfold X7_often
  refine J_iload_n (pc := 0) hX 1 rfl dX7_often_0 ?_
  refine J_i2l (pc := 1) hX dX7_often_1 ?_
  refine J_call1 (fun y1 e2 => ?_)
  refine jrun_i (pc := 2) (jRunS hX s_X7_137 (As := [jl ((p0).toInt64)]) (rest := []) (C_X7_isPage Y hz0 ((p0).toInt64) I0 L0 y1 e2) rfl rfl ⟨by decide, by decide⟩ ⟨Nat.le_of_ble_eq_true rfl, Nat.le_of_ble_eq_true rfl⟩ (Nat.le_of_ble_eq_true rfl) dX7_often_2) ?_
  refine J_if_eq (pc := 5) hX (tgt := 20) (by decide) dX7_often_5 (fun h3 => ?_) (fun h3 => ?_)
  · refine J_aload_n (pc := 20) hX 0 rfl dX7_often_20 ?_
    refine J_bipush (pc := 21) hX (v := (-52 : Int32)) (by decide) dX7_often_21 ?_
    refine J_call2 (fun y4 I5 e6 => ?_)
    refine jrun_i (pc := 23) (jRunV hX s_X7_127 (ci := 7) (T := TX7) (N := 20) (As := [ji (-52 : Int32)]) (rest := []) rfl (by decide) (C_X7_refuses Y hz0 t0 ht0 (-52 : Int32) I0 L0 y4 I5 e6) ht0 rfl rfl ⟨by decide, by decide⟩ ⟨Nat.le_of_ble_eq_true rfl, Nat.le_of_ble_eq_true rfl⟩ (Nat.le_of_ble_eq_true rfl) dX7_often_23) ?_
    exact J_iret (pc := 26) hX (hQ _) dX7_often_26
  · refine J_aload_n (pc := 8) hX 0 rfl dX7_often_8 ?_
    refine g_X7_7 (pc := 9) hX ht0 dX7_often_9 ?_
    refine J_bipush (pc := 12) hX (v := (64 : Int32)) (by decide) dX7_often_12 ?_
    refine J_iload_n (pc := 14) hX 1 rfl dX7_often_14 ?_
    refine J_iadd (pc := 15) hX dX7_often_15 ?_
    refine J_iald (pc := 16) hX (N := 784) (fs_7_0 t0 ht0) (by decide) dX7_often_16 (fun h7 => ?_)
    refine J_goto (pc := 17) hX (tgt := 26) (by decide) dX7_often_17 ?_
    exact J_iret (pc := 26) hX (hQ _) dX7_often_26
theorem C_X7_often (Y : jY) (hz0 : Y.zf = false) (t0 : Nat) (ht0 : shC t0 = 8) (p0 : Int32) (I0 : jI) (L0 : jL) (r : Int32) (I1 : jI) (h : X7_often t0 p0 I0 = some (r, I1)) : jMet Y yX7_often cX7_often 2 (some .int) 3 126 0 0 [jr t0, ji p0] NC shC rfC I0 L0 (some (ji r)) NC shC rfC I1 L0 :=
  jmet_of _ _ h (fun Z r => jQ Y Z 0 0 (some (ji r.1)) NC shC rfC r.2 L0) (fun _ => rfl) (by decide) (Nat.le_of_ble_eq_true rfl) (fun Z hX => W_X7_often hz0 t0 ht0 p0 I0 L0 hX (fun _ => rfl))
def X7_days_F1 (t0 : Nat) (p0 : Int32) (g7 : Int32 → Int32 → jI → Option (Int32 × jI)) : Int32 → Int32 → jI → Option (Int32 × jI) := fun (v4 : Int32) (v5 : Int32) (I6 : jI) =>
if p0 ≤ v5 then (
some (v4, I6))
else (
jb2 (X7_draw t0 (4 : Int32) I6) (fun (y9 : Int32) (I10 : jI) =>
jlet (if y9 = 0 then (1 : Int32) else (0 : Int32)) (fun (y13 : Int32) =>
jb2 (X7_draw t0 (3 : Int32) I10) (fun (y14 : Int32) (I15 : jI) =>
jlet (fun (v17 : Int32) (I18 : jI) =>
if jin (701 : Int32) 784 then jlet (jup I18 (rfC t0 0) ((701 : Int32)).toNatClampNeg v17) (fun (I21 : jI) =>
jlet (fun (I22 : jI) =>
jlet ((v4 + (I22 t0 5))) (fun (y24 : Int32) =>
g7 y24 (v5 + (1 : Int32)) I22)) (fun (k23 : jI → Option (Int32 × jI)) =>
if y13 = 0 then (
jb2 (X7_reads t0 v17 I21) (fun (y26 : Int32) (I27 : jI) =>
k23 I27))
else (
jb2 (X7_draw t0 (100 : Int32) I21) (fun (y29 : Int32) (I30 : jI) =>
jb2 (X7_writes t0 v17 y29 I30) (fun (y32 : Int32) (I33 : jI) =>
k23 I33))))) else none) (fun (k19 : Int32 → jI → Option (Int32 × jI)) =>
if y14 = 0 then (
jb2 (X7_draw t0 (64 : Int32) I15) (fun (y40 : Int32) (I41 : jI) =>
k19 y40 I41))
else (
if jin (701 : Int32) 784 then (
if (I15 (rfC t0 0) ((701 : Int32)).toNatClampNeg) = (-1 : Int32) then (
k19 (1 : Int32) I15)
else (
if jin (701 : Int32) 784 then (
if (64 : Int32) = 0 then none else (
k19 (jrem ((I15 (rfC t0 0) ((701 : Int32)).toNatClampNeg) + (1 : Int32)) (64 : Int32)) I15)) else none)) else none))))))
def X7_days (t0 : Nat) (p0 : Int32) (I0 : jI) : Option (Int32 × jI) :=
(X7_isIn ((p0).toInt64) (1 : Int64) (60 : Int64)).bind (fun (y1 : Int32) =>
if y1 = 0 then (
jb2 (X7_refuses t0 (-52 : Int32) I0) (fun (y43 : Int32) (I44 : jI) =>
some (y43, I44)))
else (
jfx (X7_days_F1 t0 p0) (fun _ _ _ => none) 1000 (0 : Int32) (0 : Int32) I0))
set_option maxRecDepth 20000 in
set_option maxHeartbeats 4000000 in
theorem W_X7_days {Y : jY} {Z : jZ} {Qf : Int32 × jI → State → Prop} (hz0 : Y.zf = false) (t0 : Nat) (ht0 : shC t0 = 8) (p0 : Int32) (I0 : jI) (L0 : jL) (hX : jOK Y Z RX7 cX7_days 6 "days" (some .int) 48 2250 0 0) (hQ : ∀ r : Int32 × jI, Qf r = jQ Y Z 0 0 (some (ji r.1)) NC shC rfC r.2 L0) : J Y Z 6 Qf (X7_days t0 p0 I0) 0 [(0, jr t0), (1, ji p0)] [] 0 0 NC shC rfC I0 L0 := by
  unfold X7_days
  refine J_iload_n (pc := 0) hX 1 rfl dX7_days_0 ?_
  refine J_i2l (pc := 1) hX dX7_days_1 ?_
  refine J_lconst (pc := 2) hX (v := (1 : Int64)) (by decide) dX7_days_2 ?_
  refine J_ldc2 (pc := 3) hX q_X7_258 dX7_days_3 ?_
  refine J_call1 (fun y1 e2 => ?_)
  refine jrun_i (pc := 6) (jRunS hX s_X7_47 (As := [jl ((p0).toInt64), jl (1 : Int64), jl (60 : Int64)]) (rest := []) (C_X7_isIn Y hz0 ((p0).toInt64) (1 : Int64) (60 : Int64) I0 L0 y1 e2) rfl rfl ⟨by decide, by decide⟩ ⟨Nat.le_of_ble_eq_true rfl, Nat.le_of_ble_eq_true rfl⟩ (Nat.le_of_ble_eq_true rfl) dX7_days_6) ?_
  refine J_if_ne (pc := 9) hX (tgt := 19) (by decide) dX7_days_9 (fun h3 => ?_) (fun h3 => ?_)
  · refine J_iconst (pc := 19) hX (v := (0 : Int32)) (by decide) dX7_days_19 ?_
    refine J_istore_n (pc := 20) hX (lo' := [(2, ji (0 : Int32)), (0, jr t0), (1, ji p0)]) (by decide) rfl dX7_days_20 ?_
    refine J_iconst (pc := 21) hX (v := (0 : Int32)) (by decide) dX7_days_21 ?_
    refine J_istore_n (pc := 22) hX (lo' := [(3, ji (0 : Int32)), (2, ji (0 : Int32)), (0, jr t0), (1, ji p0)]) (by decide) rfl dX7_days_22 ?_
    have lhg7 : ∀ mq : Nat, ∀ (v4 : Int32) (v5 : Int32) (I6 : jI), J Y Z 6 Qf (jfx (X7_days_F1 t0 p0) (fun _ _ _ => none) mq v4 v5 I6) 23 [(0, jr t0), (1, ji p0), (2, ji v4), (3, ji v5)] [] 0 0 NC shC rfC I6 L0 := by
      intro mq
      refine jfx_J (fun (_ : Nat) (g7 : Int32 → Int32 → jI → Option (Int32 × jI)) => ∀ (v4 : Int32) (v5 : Int32) (I6 : jI), J Y Z 6 Qf (g7 v4 v5 I6) 23 [(0, jr t0), (1, ji p0), (2, ji v4), (3, ji v5)] [] 0 0 NC shC rfC I6 L0) ?_ (fun _ g7 hg7 => ?_) mq
      · intro v4 v5 I6
        exact J_none
      intro v4 v5 I6
      unfold X7_days_F1
      try dsimp only
      refine J_iload_n (pc := 23) hX 3 rfl dX7_days_23 ?_
      refine J_iload_n (pc := 24) hX 1 rfl dX7_days_24 ?_
      refine J_icmp_ge (pc := 25) hX (tgt := 142) (by decide) dX7_days_25 (fun h8 => ?_) (fun h8 => ?_)
      · refine J_iload_n (pc := 142) hX 2 rfl dX7_days_142 ?_
        exact J_iret (pc := 143) hX (hQ _) dX7_days_143
      · refine J_aload_n (pc := 28) hX 0 rfl dX7_days_28 ?_
        refine J_iconst (pc := 29) hX (v := (4 : Int32)) (by decide) dX7_days_29 ?_
        refine J_call2 (fun y9 I10 e11 => ?_)
        refine jrun_i (pc := 30) (jRunV hX s_X7_70 (ci := 7) (T := TX7) (N := 20) (As := [ji (4 : Int32)]) (rest := []) rfl (by decide) (C_X7_draw Y hz0 t0 ht0 (4 : Int32) I6 L0 y9 I10 e11) ht0 rfl rfl ⟨by decide, by decide⟩ ⟨Nat.le_of_ble_eq_true rfl, Nat.le_of_ble_eq_true rfl⟩ (Nat.le_of_ble_eq_true rfl) dX7_days_30) ?_
        refine J_vjoin (fun kq (y13 : Int32) => J Y Z 6 Qf (kq) 41 [(0, jr t0), (1, ji p0), (2, ji v4), (3, ji v5)] [ji y13] 0 0 NC shC rfC I10 L0) (fun y13 => ?_) (fun hj => ?_)
        · try dsimp only
          refine J_istore (pc := 41) hX (lo' := [(4, ji y13), (0, jr t0), (1, ji p0), (2, ji v4), (3, ji v5)]) (by decide) rfl dX7_days_41 ?_
          refine J_aload_n (pc := 43) hX 1 rfl dX7_days_43 ?_
          refine J_iconst (pc := 44) hX (v := (3 : Int32)) (by decide) dX7_days_44 ?_
          refine J_call2 (fun y14 I15 e16 => ?_)
          refine jrun_i (pc := 45) (jRunV hX s_X7_70 (ci := 7) (T := TX7) (N := 20) (As := [ji (3 : Int32)]) (rest := []) rfl (by decide) (C_X7_draw Y hz0 t0 ht0 (3 : Int32) I10 L0 y14 I15 e16) ht0 rfl rfl ⟨by decide, by decide⟩ ⟨Nat.le_of_ble_eq_true rfl, Nat.le_of_ble_eq_true rfl⟩ (Nat.le_of_ble_eq_true rfl) dX7_days_45) ?_
          refine J_join (fun (k19 : Int32 → jI → Option (Int32 × jI)) => ∀ (v17 : Int32) (I18 : jI), J Y Z 6 Qf (k19 v17 I18) 89 [(0, jr t0), (1, ji p0), (2, ji v4), (3, ji v5), (4, ji y13)] [ji v17] 0 0 NC shC rfC I18 L0) ?_ (fun k19 hk19 => ?_)
          · intro v17 I18
            try dsimp only
            refine J_istore (pc := 89) hX (lo' := [(5, ji v17), (0, jr t0), (1, ji p0), (2, ji v4), (3, ji v5), (4, ji y13)]) (by decide) rfl dX7_days_89 ?_
            refine J_aload_n (pc := 91) hX 1 rfl dX7_days_91 ?_
            refine g_X7_7 (pc := 92) hX ht0 dX7_days_92 ?_
            refine J_sipush (pc := 95) hX (v := (701 : Int32)) (by decide) dX7_days_95 ?_
            refine J_iload (pc := 98) hX 0 rfl dX7_days_98 ?_
            refine J_iast (pc := 100) hX (N := 784) (fs_7_0 t0 ht0) (by decide) dX7_days_100 (fun h20 I21 => ?_)
            refine J_iload (pc := 101) hX 5 rfl dX7_days_101 ?_
            refine J_join (fun (k23 : jI → Option (Int32 × jI)) => ∀ (I22 : jI), J Y Z 6 Qf (k23 I22) 129 [(0, jr t0), (1, ji p0), (2, ji v4), (3, ji v5)] [] 0 0 NC shC rfC I22 L0) ?_ (fun k23 hk23 => ?_)
            · intro I22
              try dsimp only
              refine J_iload_n (pc := 129) hX 2 rfl dX7_days_129 ?_
              refine J_aload_n (pc := 130) hX 0 rfl dX7_days_130 ?_
              refine g_X7_94 (pc := 131) hX ht0 dX7_days_131 ?_
              refine J_iadd (pc := 134) hX dX7_days_134 ?_
              refine J_leti (fun y24 => ?_)
              refine J_istore_n (pc := 135) hX (lo' := [(2, ji y24), (0, jr t0), (1, ji p0), (3, ji v5)]) (by decide) rfl dX7_days_135 ?_
              refine J_iinc (pc := 136) hX (v := (v5 + (1 : Int32))) (lo' := [(3, ji (v5 + (1 : Int32))), (2, ji y24), (0, jr t0), (1, ji p0)]) 3 rfl (by rfl) (by decide) rfl dX7_days_136 ?_
              refine J_goto (pc := 139) hX (tgt := 23) (by decide) dX7_days_139 ?_
              refine J_sub [2, 3, 1, 0] rfl ?_
              exact hg7 y24 (v5 + (1 : Int32)) I22
            refine J_if_eq (pc := 103) hX (tgt := 122) (by decide) dX7_days_103 (fun h25 => ?_) (fun h25 => ?_)
            · refine J_aload_n (pc := 122) hX 1 rfl dX7_days_122 ?_
              refine J_iload (pc := 123) hX 0 rfl dX7_days_123 ?_
              refine J_call2 (fun y26 I27 e28 => ?_)
              refine jrun_i (pc := 125) (jRunV hX s_X7_141 (ci := 7) (T := TX7) (N := 20) (As := [ji v17]) (rest := []) rfl (by decide) (C_X7_reads Y hz0 t0 ht0 v17 I21 L0 y26 I27 e28) ht0 rfl rfl ⟨by decide, by decide⟩ ⟨Nat.le_of_ble_eq_true rfl, Nat.le_of_ble_eq_true rfl⟩ (Nat.le_of_ble_eq_true rfl) dX7_days_125) ?_
              refine J_pop (pc := 128) hX rfl dX7_days_128 ?_
              refine J_sub [1, 2, 3, 4] rfl ?_
              exact hk23 I27
            · refine J_aload_n (pc := 106) hX 1 rfl dX7_days_106 ?_
              refine J_iload (pc := 107) hX 0 rfl dX7_days_107 ?_
              refine J_aload_n (pc := 109) hX 1 rfl dX7_days_109 ?_
              refine J_bipush (pc := 110) hX (v := (100 : Int32)) (by decide) dX7_days_110 ?_
              refine J_call2 (fun y29 I30 e31 => ?_)
              refine jrun_i (pc := 112) (jRunV hX s_X7_70 (ci := 7) (T := TX7) (N := 20) (As := [ji (100 : Int32)]) (rest := [ji v17, jr t0]) rfl (by decide) (C_X7_draw Y hz0 t0 ht0 (100 : Int32) I21 L0 y29 I30 e31) ht0 rfl rfl ⟨by decide, by decide⟩ ⟨Nat.le_of_ble_eq_true rfl, Nat.le_of_ble_eq_true rfl⟩ (Nat.le_of_ble_eq_true rfl) dX7_days_112) ?_
              refine J_call2 (fun y32 I33 e34 => ?_)
              refine jrun_i (pc := 115) (jRunV hX s_X7_144 (ci := 7) (T := TX7) (N := 20) (As := [ji v17, ji y29]) (rest := []) rfl (by decide) (C_X7_writes Y hz0 t0 ht0 v17 y29 I30 L0 y32 I33 e34) ht0 rfl rfl ⟨by decide, by decide⟩ ⟨Nat.le_of_ble_eq_true rfl, Nat.le_of_ble_eq_true rfl⟩ (Nat.le_of_ble_eq_true rfl) dX7_days_115) ?_
              refine J_pop (pc := 118) hX rfl dX7_days_118 ?_
              refine J_goto (pc := 119) hX (tgt := 129) (by decide) dX7_days_119 ?_
              refine J_sub [1, 2, 3, 4] rfl ?_
              exact hk23 I33
          refine J_if_ne (pc := 48) hX (tgt := 60) (by decide) dX7_days_48 (fun h35 => ?_) (fun h35 => ?_)
          · refine J_aload_n (pc := 60) hX 1 rfl dX7_days_60 ?_
            refine g_X7_7 (pc := 61) hX ht0 dX7_days_61 ?_
            refine J_sipush (pc := 64) hX (v := (701 : Int32)) (by decide) dX7_days_64 ?_
            refine J_iald (pc := 67) hX (N := 784) (fs_7_0 t0 ht0) (by decide) dX7_days_67 (fun h36 => ?_)
            refine J_iconst (pc := 68) hX (v := (-1 : Int32)) (by decide) dX7_days_68 ?_
            refine J_icmp_ne (pc := 69) hX (tgt := 76) (by decide) dX7_days_69 (fun h37 => ?_) (fun h37 => ?_)
            · refine J_aload_n (pc := 76) hX 1 rfl dX7_days_76 ?_
              refine g_X7_7 (pc := 77) hX ht0 dX7_days_77 ?_
              refine J_sipush (pc := 80) hX (v := (701 : Int32)) (by decide) dX7_days_80 ?_
              refine J_iald (pc := 83) hX (N := 784) (fs_7_0 t0 ht0) (by decide) dX7_days_83 (fun h38 => ?_)
              refine J_iconst (pc := 84) hX (v := (1 : Int32)) (by decide) dX7_days_84 ?_
              refine J_iadd (pc := 85) hX dX7_days_85 ?_
              refine J_bipush (pc := 86) hX (v := (64 : Int32)) (by decide) dX7_days_86 ?_
              refine J_irem (pc := 88) hX dX7_days_88 (fun h39 => ?_)
              refine J_sub [1, 2, 3, 4, 0] rfl ?_
              exact hk19 (jrem ((I15 (rfC t0 0) ((701 : Int32)).toNatClampNeg) + (1 : Int32)) (64 : Int32)) I15
            · refine J_iconst (pc := 72) hX (v := (1 : Int32)) (by decide) dX7_days_72 ?_
              refine J_goto (pc := 73) hX (tgt := 89) (by decide) dX7_days_73 ?_
              refine J_sub [1, 2, 3, 4, 0] rfl ?_
              exact hk19 (1 : Int32) I15
          · refine J_aload_n (pc := 51) hX 1 rfl dX7_days_51 ?_
            refine J_bipush (pc := 52) hX (v := (64 : Int32)) (by decide) dX7_days_52 ?_
            refine J_call2 (fun y40 I41 e42 => ?_)
            refine jrun_i (pc := 54) (jRunV hX s_X7_70 (ci := 7) (T := TX7) (N := 20) (As := [ji (64 : Int32)]) (rest := []) rfl (by decide) (C_X7_draw Y hz0 t0 ht0 (64 : Int32) I15 L0 y40 I41 e42) ht0 rfl rfl ⟨by decide, by decide⟩ ⟨Nat.le_of_ble_eq_true rfl, Nat.le_of_ble_eq_true rfl⟩ (Nat.le_of_ble_eq_true rfl) dX7_days_54) ?_
            refine J_goto (pc := 57) hX (tgt := 89) (by decide) dX7_days_57 ?_
            refine J_sub [1, 2, 3, 4, 0] rfl ?_
            exact hk19 y40 I41
        try dsimp only at hj
        refine J_if_neV (pc := 33) hX (tgt := 40) (by decide) dX7_days_33 (fun h12 => ?_) (fun h12 => ?_)
        · refine J_iconst (pc := 40) hX (v := (0 : Int32)) (by decide) dX7_days_40 ?_
          exact hj _
        · refine J_iconst (pc := 36) hX (v := (1 : Int32)) (by decide) dX7_days_36 ?_
          refine J_goto (pc := 37) hX (tgt := 41) (by decide) dX7_days_37 ?_
          exact hj _
    refine J_sub [2, 3, 1, 0] rfl ?_
    exact lhg7 1000 (0 : Int32) (0 : Int32) I0
  · refine J_aload_n (pc := 12) hX 0 rfl dX7_days_12 ?_
    refine J_bipush (pc := 13) hX (v := (-52 : Int32)) (by decide) dX7_days_13 ?_
    refine J_call2 (fun y43 I44 e45 => ?_)
    refine jrun_i (pc := 15) (jRunV hX s_X7_127 (ci := 7) (T := TX7) (N := 20) (As := [ji (-52 : Int32)]) (rest := []) rfl (by decide) (C_X7_refuses Y hz0 t0 ht0 (-52 : Int32) I0 L0 y43 I44 e45) ht0 rfl rfl ⟨by decide, by decide⟩ ⟨Nat.le_of_ble_eq_true rfl, Nat.le_of_ble_eq_true rfl⟩ (Nat.le_of_ble_eq_true rfl) dX7_days_15) ?_
    exact J_iret (pc := 18) hX (hQ _) dX7_days_18
theorem C_X7_days (Y : jY) (hz0 : Y.zf = false) (t0 : Nat) (ht0 : shC t0 = 8) (p0 : Int32) (I0 : jI) (L0 : jL) (r : Int32) (I1 : jI) (h : X7_days t0 p0 I0 = some (r, I1)) : jMet Y yX7_days cX7_days 6 (some .int) 48 2250 0 0 [jr t0, ji p0] NC shC rfC I0 L0 (some (ji r)) NC shC rfC I1 L0 :=
  jmet_of _ _ h (fun Z r => jQ Y Z 0 0 (some (ji r.1)) NC shC rfC r.2 L0) (fun _ => rfl) (by decide) (Nat.le_of_ble_eq_true rfl) (fun Z hX => W_X7_days hz0 t0 ht0 p0 I0 L0 hX (fun _ => rfl))
def X7_seed (t0 : Nat) (p0 : Int32) (I0 : jI) : Option (Int32 × jI) :=
if jin (699 : Int32) 784 then (
jlet ((I0 (rfC t0 0) ((699 : Int32)).toNatClampNeg)) (fun (y2 : Int32) =>
if jin (699 : Int32) 784 then jlet (jup I0 (rfC t0 0) ((699 : Int32)).toNatClampNeg p0) (fun (I4 : jI) =>
some (y2, I4)) else none)) else none
set_option maxRecDepth 20000 in
set_option maxHeartbeats 4000000 in
theorem W_X7_seed {Y : jY} {Z : jZ} {Qf : Int32 × jI → State → Prop} (hz0 : Y.zf = false) (t0 : Nat) (ht0 : shC t0 = 8) (p0 : Int32) (I0 : jI) (L0 : jL) (hX : jOK Y Z RX7 cX7_seed 3 "seed" (some .int) 1 80 0 0) (hQ : ∀ r : Int32 × jI, Qf r = jQ Y Z 0 0 (some (ji r.1)) NC shC rfC r.2 L0) : J Y Z 3 Qf (X7_seed t0 p0 I0) 0 [(0, jr t0), (1, ji p0)] [] 0 0 NC shC rfC I0 L0 := by
  unfold X7_seed
  refine J_aload_n (pc := 0) hX 0 rfl dX7_seed_0 ?_
  refine g_X7_7 (pc := 1) hX ht0 dX7_seed_1 ?_
  refine J_sipush (pc := 4) hX (v := (699 : Int32)) (by decide) dX7_seed_4 ?_
  refine J_iald (pc := 7) hX (N := 784) (fs_7_0 t0 ht0) (by decide) dX7_seed_7 (fun h1 => ?_)
  refine J_leti (fun y2 => ?_)
  refine J_istore_n (pc := 8) hX (lo' := [(2, ji y2), (0, jr t0), (1, ji p0)]) (by decide) rfl dX7_seed_8 ?_
  refine J_aload_n (pc := 9) hX 1 rfl dX7_seed_9 ?_
  refine g_X7_7 (pc := 10) hX ht0 dX7_seed_10 ?_
  refine J_sipush (pc := 13) hX (v := (699 : Int32)) (by decide) dX7_seed_13 ?_
  refine J_iload_n (pc := 16) hX 2 rfl dX7_seed_16 ?_
  refine J_iast (pc := 17) hX (N := 784) (fs_7_0 t0 ht0) (by decide) dX7_seed_17 (fun h3 I4 => ?_)
  refine J_iload_n (pc := 18) hX 0 rfl dX7_seed_18 ?_
  exact J_iret (pc := 19) hX (hQ _) dX7_seed_19
theorem C_X7_seed (Y : jY) (hz0 : Y.zf = false) (t0 : Nat) (ht0 : shC t0 = 8) (p0 : Int32) (I0 : jI) (L0 : jL) (r : Int32) (I1 : jI) (h : X7_seed t0 p0 I0 = some (r, I1)) : jMet Y yX7_seed cX7_seed 3 (some .int) 1 80 0 0 [jr t0, ji p0] NC shC rfC I0 L0 (some (ji r)) NC shC rfC I1 L0 :=
  jmet_of _ _ h (fun Z r => jQ Y Z 0 0 (some (ji r.1)) NC shC rfC r.2 L0) (fun _ => rfl) (by decide) (Nat.le_of_ble_eq_true rfl) (fun Z hX => W_X7_seed hz0 t0 ht0 p0 I0 L0 hX (fun _ => rfl))
def X7_image (t0 : Nat) (I0 : jI) : Option (Int32 × jI) :=
(X7_pours (rfC t0 0) (rfC t0 1) I0).bind (fun (I1 : jI) =>
jlet (jup I1 t0 3 (1 : Int32)) (fun (I3 : jI) =>
some ((1 : Int32), I3)))
set_option maxRecDepth 20000 in
set_option maxHeartbeats 4000000 in
theorem W_X7_image {Y : jY} {Z : jZ} {Qf : Int32 × jI → State → Prop} (hz0 : Y.zf = false) (t0 : Nat) (ht0 : shC t0 = 8) (I0 : jI) (L0 : jL) (hX : jOK Y Z RX7 cX7_image 1 "image" (some .int) 2 102 0 0) (hQ : ∀ r : Int32 × jI, Qf r = jQ Y Z 0 0 (some (ji r.1)) NC shC rfC r.2 L0) : J Y Z 1 Qf (X7_image t0 I0) 0 [(0, jr t0)] [] 0 0 NC shC rfC I0 L0 := by
  unfold X7_image
  refine J_aload_n (pc := 0) hX 0 rfl dX7_image_0 ?_
  refine g_X7_7 (pc := 1) hX ht0 dX7_image_1 ?_
  refine J_aload_n (pc := 4) hX 0 rfl dX7_image_4 ?_
  refine g_X7_13 (pc := 5) hX ht0 dX7_image_5 ?_
  refine J_call1 (fun I1 e2 => ?_)
  refine jrun_v (pc := 8) (jRunS hX s_X7_217 (As := [jr (rfC t0 0), jr (rfC t0 1)]) (rest := []) (C_X7_pours Y hz0 (rfC t0 0) (fs_7_0 t0 ht0) (rfC t0 1) (fs_7_1 t0 ht0) I0 L0 I1 e2) rfl rfl ⟨by decide, by decide⟩ ⟨Nat.le_of_ble_eq_true rfl, Nat.le_of_ble_eq_true rfl⟩ (Nat.le_of_ble_eq_true rfl) dX7_image_8) ?_
  refine J_aload_n (pc := 11) hX 0 rfl dX7_image_11 ?_
  refine J_iconst (pc := 12) hX (v := (1 : Int32)) (by decide) dX7_image_12 ?_
  refine p_X7_260 (pc := 13) hX ht0 (by decide) dX7_image_13 (fun I3 => ?_)
  refine J_iconst (pc := 16) hX (v := (1 : Int32)) (by decide) dX7_image_16 ?_
  exact J_iret (pc := 17) hX (hQ _) dX7_image_17
theorem C_X7_image (Y : jY) (hz0 : Y.zf = false) (t0 : Nat) (ht0 : shC t0 = 8) (I0 : jI) (L0 : jL) (r : Int32) (I1 : jI) (h : X7_image t0 I0 = some (r, I1)) : jMet Y yX7_image cX7_image 1 (some .int) 2 102 0 0 [jr t0] NC shC rfC I0 L0 (some (ji r)) NC shC rfC I1 L0 :=
  jmet_of _ _ h (fun Z r => jQ Y Z 0 0 (some (ji r.1)) NC shC rfC r.2 L0) (fun _ => rfl) (by decide) (Nat.le_of_ble_eq_true rfl) (fun Z hX => W_X7_image hz0 t0 ht0 I0 L0 hX (fun _ => rfl))
def X7_back_F1 (t0 : Nat) (g6 : Int32 → jI → Option (Int32 × jI)) : Int32 → jI → Option (Int32 × jI) := fun (v4 : Int32) (I5 : jI) =>
if (8 : Int32) ≤ v4 then (
some ((1 : Int32), I5))
else (
if jin v4 8 then (
jlet (fun (I9 : jI) =>
g6 (v4 + (1 : Int32)) I9) (fun (k10 : jI → Option (Int32 × jI)) =>
if (I5 (rfC t0 11) (v4).toNatClampNeg) ≤ (9 : Int32) then (
k10 I5)
else (
if jin v4 8 then (
jlet (((I5 (rfC t0 11) (v4).toNatClampNeg) - (11 : Int32))) (fun (y13 : Int32) =>
if jin (688 : Int32) 784 then (
jlet (if (I5 (rfC t0 0) ((688 : Int32)).toNatClampNeg) ≤ y13 then (0 : Int32) else (1 : Int32)) (fun (y16 : Int32) =>
jlet (fun (v17 : Int32) =>
if jin v4 8 then jlet (jup I5 (rfC t0 11) (v4).toNatClampNeg v17) (fun (I20 : jI) =>
k10 I20) else none) (fun (k18 : Int32 → Option (Int32 × jI)) =>
if y16 = 0 then (
k18 (-1 : Int32))
else (
if jin v4 8 then (
k18 (I5 (rfC t0 11) (v4).toNatClampNeg)) else none)))) else none)) else none))) else none)
def X7_back (t0 : Nat) (I0 : jI) : Option (Int32 × jI) :=
if (I0 t0 3) = 0 then (
jb2 (X7_refuses t0 (-55 : Int32) I0) (fun (y23 : Int32) (I24 : jI) =>
some (y23, I24)))
else (
(X7_pours (rfC t0 1) (rfC t0 0) I0).bind (fun (I2 : jI) =>
jfx (X7_back_F1 t0) (fun _ _ => none) 1000 (0 : Int32) I2))
set_option maxRecDepth 20000 in
set_option maxHeartbeats 4000000 in
theorem W_X7_back {Y : jY} {Z : jZ} {Qf : Int32 × jI → State → Prop} (hz0 : Y.zf = false) (t0 : Nat) (ht0 : shC t0 = 8) (I0 : jI) (L0 : jL) (hX : jOK Y Z RX7 cX7_back 4 "back" (some .int) 2 102 0 0) (hQ : ∀ r : Int32 × jI, Qf r = jQ Y Z 0 0 (some (ji r.1)) NC shC rfC r.2 L0) : J Y Z 4 Qf (X7_back t0 I0) 0 [(0, jr t0)] [] 0 0 NC shC rfC I0 L0 := by
  unfold X7_back
  refine J_aload_n (pc := 0) hX 0 rfl dX7_back_0 ?_
  refine g_X7_260 (pc := 1) hX ht0 dX7_back_1 ?_
  refine J_if_ne (pc := 4) hX (tgt := 14) (by decide) dX7_back_4 (fun h1 => ?_) (fun h1 => ?_)
  · refine J_aload_n (pc := 14) hX 0 rfl dX7_back_14 ?_
    refine g_X7_13 (pc := 15) hX ht0 dX7_back_15 ?_
    refine J_aload_n (pc := 18) hX 0 rfl dX7_back_18 ?_
    refine g_X7_7 (pc := 19) hX ht0 dX7_back_19 ?_
    refine J_call1 (fun I2 e3 => ?_)
    refine jrun_v (pc := 22) (jRunS hX s_X7_217 (As := [jr (rfC t0 1), jr (rfC t0 0)]) (rest := []) (C_X7_pours Y hz0 (rfC t0 1) (fs_7_1 t0 ht0) (rfC t0 0) (fs_7_0 t0 ht0) I0 L0 I2 e3) rfl rfl ⟨by decide, by decide⟩ ⟨Nat.le_of_ble_eq_true rfl, Nat.le_of_ble_eq_true rfl⟩ (Nat.le_of_ble_eq_true rfl) dX7_back_22) ?_
    refine J_iconst (pc := 25) hX (v := (0 : Int32)) (by decide) dX7_back_25 ?_
    refine J_istore_n (pc := 26) hX (lo' := [(1, ji (0 : Int32)), (0, jr t0)]) (by decide) rfl dX7_back_26 ?_
    have lhg6 : ∀ mq : Nat, ∀ (v4 : Int32) (I5 : jI), J Y Z 4 Qf (jfx (X7_back_F1 t0) (fun _ _ => none) mq v4 I5) 27 [(0, jr t0), (1, ji v4)] [] 0 0 NC shC rfC I5 L0 := by
      intro mq
      refine jfx_J (fun (_ : Nat) (g6 : Int32 → jI → Option (Int32 × jI)) => ∀ (v4 : Int32) (I5 : jI), J Y Z 4 Qf (g6 v4 I5) 27 [(0, jr t0), (1, ji v4)] [] 0 0 NC shC rfC I5 L0) ?_ (fun _ g6 hg6 => ?_) mq
      · intro v4 I5
        exact J_none
      intro v4 I5
      unfold X7_back_F1
      try dsimp only
      refine J_iload_n (pc := 27) hX 1 rfl dX7_back_27 ?_
      refine J_bipush (pc := 28) hX (v := (8 : Int32)) (by decide) dX7_back_28 ?_
      refine J_icmp_ge (pc := 30) hX (tgt := 98) (by decide) dX7_back_30 (fun h7 => ?_) (fun h7 => ?_)
      · refine J_iconst (pc := 98) hX (v := (1 : Int32)) (by decide) dX7_back_98 ?_
        exact J_iret (pc := 99) hX (hQ _) dX7_back_99
      · refine J_aload_n (pc := 33) hX 0 rfl dX7_back_33 ?_
        refine g_X7_25 (pc := 34) hX ht0 dX7_back_34 ?_
        refine J_iload_n (pc := 37) hX 1 rfl dX7_back_37 ?_
        refine J_iald (pc := 38) hX (N := 8) (fs_7_11 t0 ht0) (by decide) dX7_back_38 (fun h8 => ?_)
        refine J_bipush (pc := 39) hX (v := (9 : Int32)) (by decide) dX7_back_39 ?_
        refine J_join (fun (k10 : jI → Option (Int32 × jI)) => ∀ (I9 : jI), J Y Z 4 Qf (k10 I9) 92 [(0, jr t0), (1, ji v4)] [] 0 0 NC shC rfC I9 L0) ?_ (fun k10 hk10 => ?_)
        · intro I9
          try dsimp only
          refine J_iinc (pc := 92) hX (v := (v4 + (1 : Int32))) (lo' := [(1, ji (v4 + (1 : Int32))), (0, jr t0)]) 1 rfl (by rfl) (by decide) rfl dX7_back_92 ?_
          refine J_goto (pc := 95) hX (tgt := 27) (by decide) dX7_back_95 ?_
          refine J_sub [1, 0] rfl ?_
          exact hg6 (v4 + (1 : Int32)) I9
        refine J_icmp_le (pc := 41) hX (tgt := 92) (by decide) dX7_back_41 (fun h11 => ?_) (fun h11 => ?_)
        · exact hk10 I5
        · refine J_aload_n (pc := 44) hX 0 rfl dX7_back_44 ?_
          refine g_X7_25 (pc := 45) hX ht0 dX7_back_45 ?_
          refine J_iload_n (pc := 48) hX 1 rfl dX7_back_48 ?_
          refine J_iald (pc := 49) hX (N := 8) (fs_7_11 t0 ht0) (by decide) dX7_back_49 (fun h12 => ?_)
          refine J_bipush (pc := 50) hX (v := (11 : Int32)) (by decide) dX7_back_50 ?_
          refine J_isub (pc := 52) hX dX7_back_52 ?_
          refine J_leti (fun y13 => ?_)
          refine J_istore_n (pc := 53) hX (lo' := [(2, ji y13), (0, jr t0), (1, ji v4)]) (by decide) rfl dX7_back_53 ?_
          refine J_iload_n (pc := 54) hX 0 rfl dX7_back_54 ?_
          refine J_aload_n (pc := 55) hX 1 rfl dX7_back_55 ?_
          refine g_X7_7 (pc := 56) hX ht0 dX7_back_56 ?_
          refine J_sipush (pc := 59) hX (v := (688 : Int32)) (by decide) dX7_back_59 ?_
          refine J_iald (pc := 62) hX (N := 784) (fs_7_0 t0 ht0) (by decide) dX7_back_62 (fun h14 => ?_)
          refine J_vjoin (fun kq (y16 : Int32) => J Y Z 4 Qf (kq) 71 [(2, ji y13), (0, jr t0), (1, ji v4)] [ji y16] 0 0 NC shC rfC I5 L0) (fun y16 => ?_) (fun hj => ?_)
          · try dsimp only
            refine J_istore_n (pc := 71) hX (lo' := [(3, ji y16), (2, ji y13), (0, jr t0), (1, ji v4)]) (by decide) rfl dX7_back_71 ?_
            refine J_aload_n (pc := 72) hX 2 rfl dX7_back_72 ?_
            refine g_X7_25 (pc := 73) hX ht0 dX7_back_73 ?_
            refine J_iload_n (pc := 76) hX 3 rfl dX7_back_76 ?_
            refine J_iload_n (pc := 77) hX 0 rfl dX7_back_77 ?_
            refine J_join (fun (k18 : Int32 → Option (Int32 × jI)) => ∀ (v17 : Int32), J Y Z 4 Qf (k18 v17) 91 [(0, jr t0), (1, ji v4)] [ji v17, ji v4, jr (rfC t0 11)] 0 0 NC shC rfC I5 L0) ?_ (fun k18 hk18 => ?_)
            · intro v17
              try dsimp only
              refine J_iast (pc := 91) hX (N := 8) (fs_7_11 t0 ht0) (by decide) dX7_back_91 (fun h19 I20 => ?_)
              exact hk10 I20
            refine J_if_eq (pc := 78) hX (tgt := 90) (by decide) dX7_back_78 (fun h21 => ?_) (fun h21 => ?_)
            · refine J_iconst (pc := 90) hX (v := (-1 : Int32)) (by decide) dX7_back_90 ?_
              refine J_sub [2, 3] rfl ?_
              exact hk18 (-1 : Int32)
            · refine J_aload_n (pc := 81) hX 2 rfl dX7_back_81 ?_
              refine g_X7_25 (pc := 82) hX ht0 dX7_back_82 ?_
              refine J_iload_n (pc := 85) hX 3 rfl dX7_back_85 ?_
              refine J_iald (pc := 86) hX (N := 8) (fs_7_11 t0 ht0) (by decide) dX7_back_86 (fun h22 => ?_)
              refine J_goto (pc := 87) hX (tgt := 91) (by decide) dX7_back_87 ?_
              refine J_sub [2, 3] rfl ?_
              exact hk18 (I5 (rfC t0 11) (v4).toNatClampNeg)
          try dsimp only at hj
          refine J_icmp_geV (pc := 63) hX (tgt := 70) (by decide) dX7_back_63 (fun h15 => ?_) (fun h15 => ?_)
          · refine J_iconst (pc := 70) hX (v := (0 : Int32)) (by decide) dX7_back_70 ?_
            exact hj _
          · refine J_iconst (pc := 66) hX (v := (1 : Int32)) (by decide) dX7_back_66 ?_
            refine J_goto (pc := 67) hX (tgt := 71) (by decide) dX7_back_67 ?_
            exact hj _
    refine J_sub [1, 0] rfl ?_
    exact lhg6 1000 (0 : Int32) I2
  · refine J_aload_n (pc := 7) hX 0 rfl dX7_back_7 ?_
    refine J_bipush (pc := 8) hX (v := (-55 : Int32)) (by decide) dX7_back_8 ?_
    refine J_call2 (fun y23 I24 e25 => ?_)
    refine jrun_i (pc := 10) (jRunV hX s_X7_127 (ci := 7) (T := TX7) (N := 20) (As := [ji (-55 : Int32)]) (rest := []) rfl (by decide) (C_X7_refuses Y hz0 t0 ht0 (-55 : Int32) I0 L0 y23 I24 e25) ht0 rfl rfl ⟨by decide, by decide⟩ ⟨Nat.le_of_ble_eq_true rfl, Nat.le_of_ble_eq_true rfl⟩ (Nat.le_of_ble_eq_true rfl) dX7_back_10) ?_
    exact J_iret (pc := 13) hX (hQ _) dX7_back_13
theorem C_X7_back (Y : jY) (hz0 : Y.zf = false) (t0 : Nat) (ht0 : shC t0 = 8) (I0 : jI) (L0 : jL) (r : Int32) (I1 : jI) (h : X7_back t0 I0 = some (r, I1)) : jMet Y yX7_back cX7_back 4 (some .int) 2 102 0 0 [jr t0] NC shC rfC I0 L0 (some (ji r)) NC shC rfC I1 L0 :=
  jmet_of _ _ h (fun Z r => jQ Y Z 0 0 (some (ji r.1)) NC shC rfC r.2 L0) (fun _ => rfl) (by decide) (Nat.le_of_ble_eq_true rfl) (fun Z hX => W_X7_back hz0 t0 ht0 I0 L0 hX (fun _ => rfl))
def X7_status_F1 (t0 : Nat) (I0 : jI) (k5 : Int32 → Option (Int32)) (g37 : Int32 → Int32 → Option (Int32)) : Int32 → Int32 → Option (Int32) := fun (v35 : Int32) (v36 : Int32) =>
if (8 : Int32) ≤ v36 then (
k5 v35)
else (
if jin v36 8 then (
jlet (if 0 ≤ (I0 (rfC t0 11) (v36).toNatClampNeg) then (1 : Int32) else (0 : Int32)) (fun (y41 : Int32) =>
jlet ((v35 + y41)) (fun (y42 : Int32) =>
g37 y42 (v36 + (1 : Int32))))) else none)
def X7_status (t0 : Nat) (p0 : Int32) (I0 : jI) : Option (Int32) :=
(X7_isIn ((p0).toInt64) (12 : Int64) (16 : Int64)).bind (fun (y1 : Int32) =>
if y1 = 0 then (
jlet (fun (v4 : Int32) =>
if p0 = (0 : Int32) then (
if jin (688 : Int32) 784 then (
some (I0 (rfC t0 0) ((688 : Int32)).toNatClampNeg)) else none)
else if p0 = (1 : Int32) then (
if jin (689 : Int32) 784 then (
some (I0 (rfC t0 0) ((689 : Int32)).toNatClampNeg)) else none)
else if p0 = (2 : Int32) then (
if jin (690 : Int32) 784 then (
some (I0 (rfC t0 0) ((690 : Int32)).toNatClampNeg)) else none)
else if p0 = (3 : Int32) then (
if jin (691 : Int32) 784 then (
some (I0 (rfC t0 0) ((691 : Int32)).toNatClampNeg)) else none)
else if p0 = (4 : Int32) then (
if jin (692 : Int32) 784 then (
some (I0 (rfC t0 0) ((692 : Int32)).toNatClampNeg)) else none)
else if p0 = (5 : Int32) then (
if jin (693 : Int32) 784 then (
some (I0 (rfC t0 0) ((693 : Int32)).toNatClampNeg)) else none)
else if p0 = (6 : Int32) then (
if jin (694 : Int32) 784 then (
some (I0 (rfC t0 0) ((694 : Int32)).toNatClampNeg)) else none)
else if p0 = (7 : Int32) then (
if jin (696 : Int32) 784 then (
some (I0 (rfC t0 0) ((696 : Int32)).toNatClampNeg)) else none)
else if p0 = (8 : Int32) then (
if jin (697 : Int32) 784 then (
some (I0 (rfC t0 0) ((697 : Int32)).toNatClampNeg)) else none)
else if p0 = (9 : Int32) then (
if jin (698 : Int32) 784 then (
some (I0 (rfC t0 0) ((698 : Int32)).toNatClampNeg)) else none)
else if p0 = (10 : Int32) then (
some (I0 t0 8))
else if p0 = (11 : Int32) then (
if jin (699 : Int32) 784 then (
some (I0 (rfC t0 0) ((699 : Int32)).toNatClampNeg)) else none)
else if p0 = (12 : Int32) then (
some (-1 : Int32))
else if p0 = (13 : Int32) then (
some (-1 : Int32))
else if p0 = (14 : Int32) then (
some (-1 : Int32))
else if p0 = (15 : Int32) then (
some (-1 : Int32))
else if p0 = (16 : Int32) then (
some (-1 : Int32))
else if p0 = (17 : Int32) then (
some v4)
else (
some (-1 : Int32))) (fun (k5 : Int32 → Option (Int32)) =>
jfx (X7_status_F1 t0 I0 k5) (fun _ _ => none) 1000 (0 : Int32) (0 : Int32)))
else (
if jin (p0 - (12 : Int32)) 5 then (
some (I0 (rfC t0 4) ((p0 - (12 : Int32))).toNatClampNeg)) else none))
set_option maxRecDepth 20000 in
set_option maxHeartbeats 4000000 in
theorem W_X7_status {Y : jY} {Z : jZ} {Qf : Int32 → State → Prop} (hz0 : Y.zf = false) (t0 : Nat) (ht0 : shC t0 = 8) (p0 : Int32) (I0 : jI) (L0 : jL) (hX : jOK Y Z RX7 cX7_status 4 "status" (some .int) 2 105 0 0) (hQ : ∀ r : Int32, Qf r = jQ Y Z 0 0 (some (ji r)) NC shC rfC I0 L0) : J Y Z 4 Qf (X7_status t0 p0 I0) 0 [(0, jr t0), (1, ji p0)] [] 0 0 NC shC rfC I0 L0 := by
  unfold X7_status
  refine J_iload_n (pc := 0) hX 1 rfl dX7_status_0 ?_
  refine J_i2l (pc := 1) hX dX7_status_1 ?_
  refine J_ldc2 (pc := 2) hX q_X7_264 dX7_status_2 ?_
  refine J_ldc2 (pc := 5) hX q_X7_119 dX7_status_5 ?_
  refine J_call1 (fun y1 e2 => ?_)
  refine jrun_i (pc := 8) (jRunS hX s_X7_47 (As := [jl ((p0).toInt64), jl (12 : Int64), jl (16 : Int64)]) (rest := []) (C_X7_isIn Y hz0 ((p0).toInt64) (12 : Int64) (16 : Int64) I0 L0 y1 e2) rfl rfl ⟨by decide, by decide⟩ ⟨Nat.le_of_ble_eq_true rfl, Nat.le_of_ble_eq_true rfl⟩ (Nat.le_of_ble_eq_true rfl) dX7_status_8) ?_
  refine J_if_eq (pc := 11) hX (tgt := 24) (by decide) dX7_status_11 (fun h3 => ?_) (fun h3 => ?_)
  · refine J_iconst (pc := 24) hX (v := (0 : Int32)) (by decide) dX7_status_24 ?_
    refine J_istore_n (pc := 25) hX (lo' := [(2, ji (0 : Int32)), (0, jr t0), (1, ji p0)]) (by decide) rfl dX7_status_25 ?_
    refine J_iconst (pc := 26) hX (v := (0 : Int32)) (by decide) dX7_status_26 ?_
    refine J_istore_n (pc := 27) hX (lo' := [(3, ji (0 : Int32)), (2, ji (0 : Int32)), (0, jr t0), (1, ji p0)]) (by decide) rfl dX7_status_27 ?_
    refine J_join (fun (k5 : Int32 → Option (Int32)) => ∀ (v4 : Int32), J Y Z 4 Qf (k5 v4) 57 [(0, jr t0), (1, ji p0), (2, ji v4)] [] 0 0 NC shC rfC I0 L0) ?_ (fun k5 hk5 => ?_)
    · intro v4
      try dsimp only
      refine J_iload_n (pc := 57) hX 1 rfl dX7_status_57 ?_
      refine J_swc (0 : Int32) (fun h6 => ?_) (fun h6 => ?_)
      · refine J_swIn (pc := 58) hX (tgt := 144) (off := 86) (0 : Int32) h6 (by decide) (by decide) rfl (by decide) dX7_status_58 ?_
        refine J_aload_n (pc := 144) hX 0 rfl dX7_status_144 ?_
        refine g_X7_7 (pc := 145) hX ht0 dX7_status_145 ?_
        refine J_sipush (pc := 148) hX (v := (688 : Int32)) (by decide) dX7_status_148 ?_
        refine J_iald (pc := 151) hX (N := 784) (fs_7_0 t0 ht0) (by decide) dX7_status_151 (fun h7 => ?_)
        exact J_iret (pc := 152) hX (hQ _) dX7_status_152
      refine J_swc (1 : Int32) (fun h8 => ?_) (fun h8 => ?_)
      · refine J_swIn (pc := 58) hX (tgt := 153) (off := 95) (1 : Int32) h8 (by decide) (by decide) rfl (by decide) dX7_status_58 ?_
        refine J_aload_n (pc := 153) hX 0 rfl dX7_status_153 ?_
        refine g_X7_7 (pc := 154) hX ht0 dX7_status_154 ?_
        refine J_sipush (pc := 157) hX (v := (689 : Int32)) (by decide) dX7_status_157 ?_
        refine J_iald (pc := 160) hX (N := 784) (fs_7_0 t0 ht0) (by decide) dX7_status_160 (fun h9 => ?_)
        exact J_iret (pc := 161) hX (hQ _) dX7_status_161
      refine J_swc (2 : Int32) (fun h10 => ?_) (fun h10 => ?_)
      · refine J_swIn (pc := 58) hX (tgt := 162) (off := 104) (2 : Int32) h10 (by decide) (by decide) rfl (by decide) dX7_status_58 ?_
        refine J_aload_n (pc := 162) hX 0 rfl dX7_status_162 ?_
        refine g_X7_7 (pc := 163) hX ht0 dX7_status_163 ?_
        refine J_sipush (pc := 166) hX (v := (690 : Int32)) (by decide) dX7_status_166 ?_
        refine J_iald (pc := 169) hX (N := 784) (fs_7_0 t0 ht0) (by decide) dX7_status_169 (fun h11 => ?_)
        exact J_iret (pc := 170) hX (hQ _) dX7_status_170
      refine J_swc (3 : Int32) (fun h12 => ?_) (fun h12 => ?_)
      · refine J_swIn (pc := 58) hX (tgt := 171) (off := 113) (3 : Int32) h12 (by decide) (by decide) rfl (by decide) dX7_status_58 ?_
        refine J_aload_n (pc := 171) hX 0 rfl dX7_status_171 ?_
        refine g_X7_7 (pc := 172) hX ht0 dX7_status_172 ?_
        refine J_sipush (pc := 175) hX (v := (691 : Int32)) (by decide) dX7_status_175 ?_
        refine J_iald (pc := 178) hX (N := 784) (fs_7_0 t0 ht0) (by decide) dX7_status_178 (fun h13 => ?_)
        exact J_iret (pc := 179) hX (hQ _) dX7_status_179
      refine J_swc (4 : Int32) (fun h14 => ?_) (fun h14 => ?_)
      · refine J_swIn (pc := 58) hX (tgt := 180) (off := 122) (4 : Int32) h14 (by decide) (by decide) rfl (by decide) dX7_status_58 ?_
        refine J_aload_n (pc := 180) hX 0 rfl dX7_status_180 ?_
        refine g_X7_7 (pc := 181) hX ht0 dX7_status_181 ?_
        refine J_sipush (pc := 184) hX (v := (692 : Int32)) (by decide) dX7_status_184 ?_
        refine J_iald (pc := 187) hX (N := 784) (fs_7_0 t0 ht0) (by decide) dX7_status_187 (fun h15 => ?_)
        exact J_iret (pc := 188) hX (hQ _) dX7_status_188
      refine J_swc (5 : Int32) (fun h16 => ?_) (fun h16 => ?_)
      · refine J_swIn (pc := 58) hX (tgt := 189) (off := 131) (5 : Int32) h16 (by decide) (by decide) rfl (by decide) dX7_status_58 ?_
        refine J_aload_n (pc := 189) hX 0 rfl dX7_status_189 ?_
        refine g_X7_7 (pc := 190) hX ht0 dX7_status_190 ?_
        refine J_sipush (pc := 193) hX (v := (693 : Int32)) (by decide) dX7_status_193 ?_
        refine J_iald (pc := 196) hX (N := 784) (fs_7_0 t0 ht0) (by decide) dX7_status_196 (fun h17 => ?_)
        exact J_iret (pc := 197) hX (hQ _) dX7_status_197
      refine J_swc (6 : Int32) (fun h18 => ?_) (fun h18 => ?_)
      · refine J_swIn (pc := 58) hX (tgt := 198) (off := 140) (6 : Int32) h18 (by decide) (by decide) rfl (by decide) dX7_status_58 ?_
        refine J_aload_n (pc := 198) hX 0 rfl dX7_status_198 ?_
        refine g_X7_7 (pc := 199) hX ht0 dX7_status_199 ?_
        refine J_sipush (pc := 202) hX (v := (694 : Int32)) (by decide) dX7_status_202 ?_
        refine J_iald (pc := 205) hX (N := 784) (fs_7_0 t0 ht0) (by decide) dX7_status_205 (fun h19 => ?_)
        exact J_iret (pc := 206) hX (hQ _) dX7_status_206
      refine J_swc (7 : Int32) (fun h20 => ?_) (fun h20 => ?_)
      · refine J_swIn (pc := 58) hX (tgt := 207) (off := 149) (7 : Int32) h20 (by decide) (by decide) rfl (by decide) dX7_status_58 ?_
        refine J_aload_n (pc := 207) hX 0 rfl dX7_status_207 ?_
        refine g_X7_7 (pc := 208) hX ht0 dX7_status_208 ?_
        refine J_sipush (pc := 211) hX (v := (696 : Int32)) (by decide) dX7_status_211 ?_
        refine J_iald (pc := 214) hX (N := 784) (fs_7_0 t0 ht0) (by decide) dX7_status_214 (fun h21 => ?_)
        exact J_iret (pc := 215) hX (hQ _) dX7_status_215
      refine J_swc (8 : Int32) (fun h22 => ?_) (fun h22 => ?_)
      · refine J_swIn (pc := 58) hX (tgt := 216) (off := 158) (8 : Int32) h22 (by decide) (by decide) rfl (by decide) dX7_status_58 ?_
        refine J_aload_n (pc := 216) hX 0 rfl dX7_status_216 ?_
        refine g_X7_7 (pc := 217) hX ht0 dX7_status_217 ?_
        refine J_sipush (pc := 220) hX (v := (697 : Int32)) (by decide) dX7_status_220 ?_
        refine J_iald (pc := 223) hX (N := 784) (fs_7_0 t0 ht0) (by decide) dX7_status_223 (fun h23 => ?_)
        exact J_iret (pc := 224) hX (hQ _) dX7_status_224
      refine J_swc (9 : Int32) (fun h24 => ?_) (fun h24 => ?_)
      · refine J_swIn (pc := 58) hX (tgt := 225) (off := 167) (9 : Int32) h24 (by decide) (by decide) rfl (by decide) dX7_status_58 ?_
        refine J_aload_n (pc := 225) hX 0 rfl dX7_status_225 ?_
        refine g_X7_7 (pc := 226) hX ht0 dX7_status_226 ?_
        refine J_sipush (pc := 229) hX (v := (698 : Int32)) (by decide) dX7_status_229 ?_
        refine J_iald (pc := 232) hX (N := 784) (fs_7_0 t0 ht0) (by decide) dX7_status_232 (fun h25 => ?_)
        exact J_iret (pc := 233) hX (hQ _) dX7_status_233
      refine J_swc (10 : Int32) (fun h26 => ?_) (fun h26 => ?_)
      · refine J_swIn (pc := 58) hX (tgt := 234) (off := 176) (10 : Int32) h26 (by decide) (by decide) rfl (by decide) dX7_status_58 ?_
        refine J_aload_n (pc := 234) hX 0 rfl dX7_status_234 ?_
        refine g_X7_156 (pc := 235) hX ht0 dX7_status_235 ?_
        exact J_iret (pc := 238) hX (hQ _) dX7_status_238
      refine J_swc (11 : Int32) (fun h27 => ?_) (fun h27 => ?_)
      · refine J_swIn (pc := 58) hX (tgt := 239) (off := 181) (11 : Int32) h27 (by decide) (by decide) rfl (by decide) dX7_status_58 ?_
        refine J_aload_n (pc := 239) hX 0 rfl dX7_status_239 ?_
        refine g_X7_7 (pc := 240) hX ht0 dX7_status_240 ?_
        refine J_sipush (pc := 243) hX (v := (699 : Int32)) (by decide) dX7_status_243 ?_
        refine J_iald (pc := 246) hX (N := 784) (fs_7_0 t0 ht0) (by decide) dX7_status_246 (fun h28 => ?_)
        exact J_iret (pc := 247) hX (hQ _) dX7_status_247
      refine J_swc (12 : Int32) (fun h29 => ?_) (fun h29 => ?_)
      · refine J_swIn (pc := 58) hX (tgt := 250) (off := 192) (12 : Int32) h29 (by decide) (by decide) rfl (by decide) dX7_status_58 ?_
        refine J_iconst (pc := 250) hX (v := (-1 : Int32)) (by decide) dX7_status_250 ?_
        exact J_iret (pc := 251) hX (hQ _) dX7_status_251
      refine J_swc (13 : Int32) (fun h30 => ?_) (fun h30 => ?_)
      · refine J_swIn (pc := 58) hX (tgt := 250) (off := 192) (13 : Int32) h30 (by decide) (by decide) rfl (by decide) dX7_status_58 ?_
        refine J_iconst (pc := 250) hX (v := (-1 : Int32)) (by decide) dX7_status_250 ?_
        exact J_iret (pc := 251) hX (hQ _) dX7_status_251
      refine J_swc (14 : Int32) (fun h31 => ?_) (fun h31 => ?_)
      · refine J_swIn (pc := 58) hX (tgt := 250) (off := 192) (14 : Int32) h31 (by decide) (by decide) rfl (by decide) dX7_status_58 ?_
        refine J_iconst (pc := 250) hX (v := (-1 : Int32)) (by decide) dX7_status_250 ?_
        exact J_iret (pc := 251) hX (hQ _) dX7_status_251
      refine J_swc (15 : Int32) (fun h32 => ?_) (fun h32 => ?_)
      · refine J_swIn (pc := 58) hX (tgt := 250) (off := 192) (15 : Int32) h32 (by decide) (by decide) rfl (by decide) dX7_status_58 ?_
        refine J_iconst (pc := 250) hX (v := (-1 : Int32)) (by decide) dX7_status_250 ?_
        exact J_iret (pc := 251) hX (hQ _) dX7_status_251
      refine J_swc (16 : Int32) (fun h33 => ?_) (fun h33 => ?_)
      · refine J_swIn (pc := 58) hX (tgt := 250) (off := 192) (16 : Int32) h33 (by decide) (by decide) rfl (by decide) dX7_status_58 ?_
        refine J_iconst (pc := 250) hX (v := (-1 : Int32)) (by decide) dX7_status_250 ?_
        exact J_iret (pc := 251) hX (hQ _) dX7_status_251
      refine J_swc (17 : Int32) (fun h34 => ?_) (fun h34 => ?_)
      · refine J_swIn (pc := 58) hX (tgt := 248) (off := 190) (17 : Int32) h34 (by decide) (by decide) rfl (by decide) dX7_status_58 ?_
        refine J_iload_n (pc := 248) hX 2 rfl dX7_status_248 ?_
        exact J_iret (pc := 249) hX (hQ _) dX7_status_249
      refine J_swOut (pc := 58) hX (tgt := 250) (by decide) (jsw_2 (jsw_1 (b := 18) (17 : Int32) (jsw_1 (b := 17) (16 : Int32) (jsw_1 (b := 16) (15 : Int32) (jsw_1 (b := 15) (14 : Int32) (jsw_1 (b := 14) (13 : Int32) (jsw_1 (b := 13) (12 : Int32) (jsw_1 (b := 12) (11 : Int32) (jsw_1 (b := 11) (10 : Int32) (jsw_1 (b := 10) (9 : Int32) (jsw_1 (b := 9) (8 : Int32) (jsw_1 (b := 8) (7 : Int32) (jsw_1 (b := 7) (6 : Int32) (jsw_1 (b := 6) (5 : Int32) (jsw_1 (b := 5) (4 : Int32) (jsw_1 (b := 4) (3 : Int32) (jsw_1 (b := 3) (2 : Int32) (jsw_1 (b := 2) (1 : Int32) (jsw_1 (b := 1) (0 : Int32) jsw_0 h6 (by decide) (by decide)) h8 (by decide) (by decide)) h10 (by decide) (by decide)) h12 (by decide) (by decide)) h14 (by decide) (by decide)) h16 (by decide) (by decide)) h18 (by decide) (by decide)) h20 (by decide) (by decide)) h22 (by decide) (by decide)) h24 (by decide) (by decide)) h26 (by decide) (by decide)) h27 (by decide) (by decide)) h29 (by decide) (by decide)) h30 (by decide) (by decide)) h31 (by decide) (by decide)) h32 (by decide) (by decide)) h33 (by decide) (by decide)) h34 (by decide) (by decide)) (by decide)) dX7_status_58 ?_
      refine J_iconst (pc := 250) hX (v := (-1 : Int32)) (by decide) dX7_status_250 ?_
      exact J_iret (pc := 251) hX (hQ _) dX7_status_251
    have lhg37 : ∀ mq : Nat, ∀ (v35 : Int32) (v36 : Int32), J Y Z 4 Qf (jfx (X7_status_F1 t0 I0 k5) (fun _ _ => none) mq v35 v36) 28 [(0, jr t0), (1, ji p0), (2, ji v35), (3, ji v36)] [] 0 0 NC shC rfC I0 L0 := by
      intro mq
      refine jfx_J (fun (_ : Nat) (g37 : Int32 → Int32 → Option (Int32)) => ∀ (v35 : Int32) (v36 : Int32), J Y Z 4 Qf (g37 v35 v36) 28 [(0, jr t0), (1, ji p0), (2, ji v35), (3, ji v36)] [] 0 0 NC shC rfC I0 L0) ?_ (fun _ g37 hg37 => ?_) mq
      · intro v35 v36
        exact J_none
      intro v35 v36
      unfold X7_status_F1
      try dsimp only
      refine J_iload_n (pc := 28) hX 3 rfl dX7_status_28 ?_
      refine J_bipush (pc := 29) hX (v := (8 : Int32)) (by decide) dX7_status_29 ?_
      refine J_icmp_ge (pc := 31) hX (tgt := 57) (by decide) dX7_status_31 (fun h38 => ?_) (fun h38 => ?_)
      · refine J_sub [0, 1, 2] rfl ?_
        exact hk5 v35
      · refine J_iload_n (pc := 34) hX 2 rfl dX7_status_34 ?_
        refine J_aload_n (pc := 35) hX 0 rfl dX7_status_35 ?_
        refine g_X7_25 (pc := 36) hX ht0 dX7_status_36 ?_
        refine J_iload_n (pc := 39) hX 3 rfl dX7_status_39 ?_
        refine J_iald (pc := 40) hX (N := 8) (fs_7_11 t0 ht0) (by decide) dX7_status_40 (fun h39 => ?_)
        refine J_vjoin (fun kq (y41 : Int32) => J Y Z 4 Qf (kq) 49 [(0, jr t0), (1, ji p0), (2, ji v35), (3, ji v36)] [ji y41, ji v35] 0 0 NC shC rfC I0 L0) (fun y41 => ?_) (fun hj => ?_)
        · try dsimp only
          refine J_iadd (pc := 49) hX dX7_status_49 ?_
          refine J_leti (fun y42 => ?_)
          refine J_istore_n (pc := 50) hX (lo' := [(2, ji y42), (0, jr t0), (1, ji p0), (3, ji v36)]) (by decide) rfl dX7_status_50 ?_
          refine J_iinc (pc := 51) hX (v := (v36 + (1 : Int32))) (lo' := [(3, ji (v36 + (1 : Int32))), (2, ji y42), (0, jr t0), (1, ji p0)]) 3 rfl (by rfl) (by decide) rfl dX7_status_51 ?_
          refine J_goto (pc := 54) hX (tgt := 28) (by decide) dX7_status_54 ?_
          refine J_sub [2, 3, 1, 0] rfl ?_
          exact hg37 y42 (v36 + (1 : Int32))
        try dsimp only at hj
        refine J_if_geV (pc := 41) hX (tgt := 48) (by decide) dX7_status_41 (fun h40 => ?_) (fun h40 => ?_)
        · refine J_iconst (pc := 48) hX (v := (1 : Int32)) (by decide) dX7_status_48 ?_
          exact hj _
        · refine J_iconst (pc := 44) hX (v := (0 : Int32)) (by decide) dX7_status_44 ?_
          refine J_goto (pc := 45) hX (tgt := 49) (by decide) dX7_status_45 ?_
          exact hj _
    refine J_sub [2, 3, 1, 0] rfl ?_
    exact lhg37 1000 (0 : Int32) (0 : Int32)
  · refine J_aload_n (pc := 14) hX 0 rfl dX7_status_14 ?_
    refine g_X7_19 (pc := 15) hX ht0 dX7_status_15 ?_
    refine J_iload_n (pc := 18) hX 1 rfl dX7_status_18 ?_
    refine J_bipush (pc := 19) hX (v := (12 : Int32)) (by decide) dX7_status_19 ?_
    refine J_isub (pc := 21) hX dX7_status_21 ?_
    refine J_iald (pc := 22) hX (N := 5) (fs_7_4 t0 ht0) (by decide) dX7_status_22 (fun h43 => ?_)
    exact J_iret (pc := 23) hX (hQ _) dX7_status_23
theorem C_X7_status (Y : jY) (hz0 : Y.zf = false) (t0 : Nat) (ht0 : shC t0 = 8) (p0 : Int32) (I0 : jI) (L0 : jL) (r : Int32) (h : X7_status t0 p0 I0 = some r) : jMet Y yX7_status cX7_status 4 (some .int) 2 105 0 0 [jr t0, ji p0] NC shC rfC I0 L0 (some (ji r)) NC shC rfC I0 L0 :=
  jmet_of _ _ h (fun Z r => jQ Y Z 0 0 (some (ji r)) NC shC rfC I0 L0) (fun _ => rfl) (by decide) (Nat.le_of_ble_eq_true rfl) (fun Z hX => W_X7_status hz0 t0 ht0 p0 I0 L0 hX (fun _ => rfl))
