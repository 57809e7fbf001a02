/-! REFUSALS: on both sides -/
theorem rM4 : rfC 164 4 = 168 := by decide +kernel
theorem rR : rfC 1 0 = 2 ∧ rfC 1 1 = 48 ∧ rfC 1 2 = 94 := by decide +kernel
theorem refuse_c (e : Nat) (he : e < 5) (x : Int32) (hx : (-52 : Int32) - x = nI e) (I : jI) : X6_refuse 1 x I = some (x, jup I (rfC 1 6) e (I (rfC 1 6) e + 1)) := by
  unfold X6_refuse X6_isWithin
  rw [hx, jlet_d, if_neg (nI_pos (by omega)), show ((5 : Int32) - 1) = nI 4 from rfl, if_neg (nI_nlt (by omega) (by omega)), ob_some, if_neg (by decide), if_pos (jin_N he (by omega)), if_pos (jin_N he (by omega)), jlet_d, cl_N (by omega)]
theorem refuse_m (e : Nat) (he : e < 5) (x : Int32) (hx : (-52 : Int32) - x = nI e) (I : jI) : X7_refuses 164 x I = some (x, jup I 168 e (I 168 e + 1)) := by
  unfold X7_refuses
  rw [hx, if_pos (jin_N he (by omega)), if_pos (jin_N he (by omega)), jlet_d, cl_N (by omega), rM4]
