/-! BOUNDS: the class's test beside the model's -/
theorem cmp_lt (x y : Int64) : (lg_cmp x y < 0) = (x < y) := by
  unfold lg_cmp
  by_cases c : x > y
  · rw [if_pos c]
    have hn : ¬ x < y := by
      have h1 := Int64.lt_iff_toInt_lt.mp (show y < x from c)
      rw [Int64.lt_iff_toInt_lt]
      omega
    exact propext ⟨fun h => absurd h (by decide), fun h => absurd h hn⟩
  · rw [if_neg c]
    by_cases e : x = y
    · subst e
      rw [if_pos rfl]
      exact propext ⟨fun h => absurd h (by decide), fun h => absurd h c⟩
    · rw [if_neg e]
      have hl : x < y := by
        rw [Int64.lt_iff_toInt_lt]
        have h1 : ¬ y.toInt < x.toInt := fun h => c (Int64.lt_iff_toInt_lt.mpr h)
        have h2 : x.toInt ≠ y.toInt := fun h => e (Int64.toInt_inj.mp h)
        omega
      exact propext ⟨fun _ => hl, fun _ => by decide⟩
theorem cmp_gt (x y : Int64) : (0 < lg_cmp x y) = (y < x) := by
  unfold lg_cmp
  by_cases c : x > y
  · rw [if_pos c]
    exact propext ⟨fun _ => c, fun _ => by decide⟩
  · rw [if_neg c]
    by_cases e : x = y
    · rw [if_pos e]
      exact propext ⟨fun h => absurd h (by decide), fun h => absurd h c⟩
    · rw [if_neg e]
      exact propext ⟨fun h => absurd h (by decide), fun h => absurd h c⟩
theorem lt64 (x y : Int32) : (x.toInt64 < y.toInt64) = (x < y) := by
  apply propext
  rw [Int64.lt_iff_toInt_lt, Int32.lt_iff_toInt_lt, Int32.toInt_toInt64, Int32.toInt_toInt64]
theorem within_e (x a b : Int32) (A Bd : Int64) (hA : A = a.toInt64) (hB : Bd = b.toInt64) : X7_isIn x.toInt64 A Bd = X6_isWithin x a b := by
  subst hA hB
  unfold X7_isIn X6_isWithin
  simp only [cmp_lt, cmp_gt, lt64]
