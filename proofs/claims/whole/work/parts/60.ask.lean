/-! ASKED: feed, wipe, often, past, slot, value, where on both sides -/
section ASK
variable {B cnt mode T : Nat} {S : Nat → Nat} {I : jI} {L : jL}
theorem GG.tape (h : GG B cnt mode T S I L) {I' : jI} (h1 : ∀ r, r ≠ 140 → r ≠ 141 → r ≠ 164 → r ≠ 169 → I' r = I r) (h3 : I' 164 3 = I 164 3) (hT : TAP I') : GG B cnt mode T S I' L := by
  refine ⟨h.1.congr (fun r a b => h1 r (by omega) (by omega) (by omega) (by omega)) (fun i _ => by rw [h1 165 (by omega) (by omega) (by omega) (by omega)]), fun s hs => (h.2.1 s hs).congr (fun k _ => by rw [h1 _ (by omega) (by omega) (by omega) (by omega)]) (by rw [h1 _ (by omega) (by omega) (by omega) (by omega)]) (by rw [h1 _ (by omega) (by omega) (by omega) (by omega)]) (fun _ _ => ⟨rfl, rfl⟩), hT, ?_, fun e he => by rw [h1 _ (by omega) (by omega) (by omega) (by omega), h1 _ (by omega) (by omega) (by omega) (by omega)]; exact h.2.2.2.2 e he⟩
  rcases h.2.2.2.1 with ⟨a, b⟩ | ⟨a, b, c, mo, t, s, hS⟩
  · exact Or.inl ⟨by rw [h1 1 (by omega) (by omega) (by omega) (by omega)]; exact a, by rw [h3]; exact b⟩
  · exact Or.inr ⟨by rw [h1 1 (by omega) (by omega) (by omega) (by omega)]; exact a, by rw [h3]; exact b, c, mo, t, s, hS.congr (fun r a b => h1 r (by omega) (by omega) (by omega) (by omega)) (fun i _ => by rw [h1 166 (by omega) (by omega) (by omega) (by omega)])⟩
theorem t_feed (h : GG B cnt mode T S I L) (x : Int32) : Two B L (X6_feed 1 x) (X7_feed 164 x) I := by
  obtain ⟨n, hn, t1, t2, t3⟩ := h.2.2.1
  rcases wi_c x 0 255 0 255 rfl rfl with hx | ⟨hx, b, -, hb, -, rfl⟩
  · exact Two.ref h 0 (by omega) (-52) rx0 (by unfold X6_feed; rw [hx, ob_some, if_pos rfl]; exact jb2_id _) (fun J _ => by unfold X7_feed; rw [within_e x 0 255 0 255 rfl rfl, hx, ob_some, if_pos rfl]; exact jb2_id _)
  by_cases hf : n = 250
  · subst hf
    exact Two.ref h 4 (by omega) (-56) rx4 (by unfold X6_feed X5_isFull; rw [hx, ob_some, if_neg (by decide), rT.1, t1, if_neg (by decide), ob_some, if_neg (by decide)]; exact jb2_id _) (fun J hJ => by unfold X7_feed; rw [within_e _ 0 255 0 255 rfl rfl, hx, ob_some, if_neg (by decide), hJ 164 (by omega), t2, if_pos (by decide)]; exact jb2_id _)
  · obtain ⟨I1, hI1⟩ : ∃ I1, I1 = jup (jup I 141 n (nI b)) 140 0 (nI (n + 1)) := ⟨_, rfl⟩
    obtain ⟨I2, hI2⟩ : ∃ I2, I2 = jup (jup I1 169 n (nI b)) 164 8 (nI (n + 1)) := ⟨_, rfl⟩
    refine ⟨nI (n + 1), I1, I2, ?_, ?_, cnt, mode, T, S, GG.mono (h.tape (fun r a b c d => ?_) ?_ ⟨n + 1, by omega, ?_, ?_, fun i hi => ?_⟩) (by omega)⟩
    · unfold X6_feed X5_isFull X5_append
      rw [hx, ob_some, if_neg (by decide), rT.1, t1, if_pos (llt (250 : Int32) 250 rfl (by omega) (by omega)), ob_some, if_pos rfl, wi_y (nI n) 0 ((250 : Int32) - (1 : Int32)) rfl (by omega) (by rw [show (0 : Int32).toInt = 0 from rfl]; omega) (by rw [show ((250 : Int32) - (1 : Int32)).toInt = 249 from by decide]; omega), ob_some, if_neg (by decide), if_pos (jin_N (by omega) (by omega)), jlet_d, jlet_d, rT.2.2.2.2.1, cl_N (by omega), jup_ne _ _ (show 140 ≠ 141 by omega), t1, show nI n + (1 : Int32) = nI (n + 1) from nI_1 n, ← hI1, ob_some, hI1, jup_q, ju1_eq]
    · unfold X7_feed
      have e0 : I1 164 8 = nI n := by rw [hI1, jup_ne _ _ (by omega), jup_ne _ _ (by omega)]; exact t2
      rw [within_e _ 0 255 0 255 rfl rfl, hx, ob_some, if_neg (by decide), e0, if_neg (fun e => hf ((nI_eq (by omega) (by omega)).mp (e.trans (show (250 : Int32) = nI 250 from rfl)))), if_pos (jin_N (by omega) (by omega)), jlet_d, jlet_d, rMM.2.1, cl_N (by omega), jup_ne _ _ (show 164 ≠ 169 by omega), e0, show nI n + (1 : Int32) = nI (n + 1) from nI_1 n, ← hI2, hI2, jup_q, ju1_eq]
    · rw [hI2, jup_ne _ _ c, jup_ne _ _ d, hI1, jup_ne _ _ a, jup_ne _ _ b]
    · rw [hI2, jup_nj _ _ (by omega), jup_ne _ _ (by omega), hI1, jup_ne _ _ (by omega), jup_ne _ _ (by omega)]
    · rw [hI2, jup_ne _ _ (by omega), jup_ne _ _ (by omega), hI1, jup_q, ju1_eq]
    · rw [hI2, jup_q, ju1_eq]
    · rw [hI2, jup_ne _ _ (by omega), jup_ne _ _ (by omega), hI1, jup_ne _ _ (by omega), jup_q, jup_ne _ _ (by omega), jup_q]
      by_cases e : i = n
      · subst e; exact ⟨b, by omega, ju1_eq _ _ _, ju1_eq _ _ _⟩
      · rw [ju1_ne _ _ e, ju1_ne _ _ e, jup_ne _ _ (by omega), jup_ne _ _ (by omega)]; exact t3 i (by omega)
theorem t_wipe (h : GG B cnt mode T S I L) : Two B L (X6_wipe 1) (X7_wipe 164) I := by
  obtain ⟨n, hn, t1, t2, t3⟩ := h.2.2.1
  refine ⟨nI n, jup I 140 0 0, jup (jup I 140 0 0) 164 8 0, ?_, ?_, cnt, mode, T, S, GG.mono (h.tape (fun r a b c d => ?_) ?_ ⟨0, by omega, ?_, ?_, fun i hi => by omega⟩) (by omega)⟩
  · unfold X6_wipe; rw [jlet_d, jlet_d, rT.1, t1]
  · unfold X7_wipe; rw [jlet_d, jlet_d, jup_ne _ _ (by omega), t2]
  · rw [jup_ne _ _ c, jup_ne _ _ a]
  · rw [jup_nj _ _ (by omega), jup_ne _ _ (by omega)]
  · rw [jup_ne _ _ (by omega), jup_q, ju1_eq]; rfl
  · rw [jup_q, ju1_eq]; rfl
theorem t_often (h : GG B cnt mode T S I L) (x : Int32) : Two B L (X6_often 1 x) (X7_often 164 x) I := by
  rcases page_c x with ⟨e1, e2⟩ | ⟨p, hp, rfl, e1, e2⟩
  · exact Two.ref h 0 (by omega) (-52) rx0 (by unfold X6_often; rw [e1, ob_some, if_pos rfl]; exact jb2_id _) (fun J _ => by unfold X7_often; rw [e2, ob_some, if_pos rfl]; exact jb2_id _)
  · refine Two.same h (I 165 (64 + p)) ?_ ?_
    · unfold X6_often X1_timesOf
      rw [e1, ob_some, if_neg (by decide), ob_some, if_neg (by decide), if_pos (jin_N hp (by omega)), ob_some, rR.1, (SB_o OB2).2.2.2.1, (SB_o OB2).2.2.2.2.2.2.2.2.1, cl_N (by omega), h.1.2.2.2.2.2.2.2.2.2.2.2.2.1 p hp]
    · unfold X7_often
      rw [e2, ob_some, if_neg (by decide), show (64 : Int32) = nI 64 from rfl, nI_add, if_pos (jin_N (by omega) (by omega)), rM0, cl_N (by omega)]
theorem subN {a b : Nat} (h : b ≤ a) : nI a - nI b = nI (a - b) := by
  obtain ⟨c, rfl⟩ : ∃ c, a = c + b := ⟨a - b, by omega⟩
  rw [← nI_add, Int32.add_sub_cancel, show c + b - b = c by omega]
theorem t_past (h : GG B cnt mode T S I L) (hB : B + 32768 < 1073741824) (x y : Int32) : Two B L (X6_past 1 x y) (X7_past 164 x y) I := by
  have hT : T ≤ B := h.1.1.2.2.1
  have hI7 : I 2 7 = nI T := h.1.2.1.2.2.2.2.1
  have h702 : I 165 702 = nI (min T 20) := h.1.2.2.2.2.2.2.2.2.2.2.2.2.2.1
  have hX := h.1.2.2.2.2.2.2.2.2.2.2.2.2.2.2
  have mx : ∀ J : jI, J 165 = I 165 → X7_past 164 x y J = (X6_isWithin x 0 (nI (min T 20) - (1 : Int32))).bind (fun (y2 : Int32) =>
if y2 = 0 then (
jb2 (X7_refuses 164 (-52 : Int32) J) (fun (y5 : Int32) (I6 : jI) =>
some (y5, I6)))
else (
(X6_isWithin y 0 3).bind (fun (y8 : Int32) =>
if y8 = 0 then (
jb2 (X7_refuses 164 (-52 : Int32) J) (fun (y11 : Int32) (I12 : jI) =>
some (y11, I12)))
else (
if jin (((704 : Int32) + ((4 : Int32) * x)) + y) 784 then (
some ((J 165 ((((704 : Int32) + ((4 : Int32) * x)) + y)).toNatClampNeg), J)) else none)))) := fun J hJ => by
    unfold X7_past
    rw [if_pos (by decide), rM0, show ((702 : Int32)).toNatClampNeg = 702 from rfl, within_e x 0 _ 0 _ rfl rfl, within_e y 0 3 0 3 rfl rfl, hJ, h702]
  rcases wi_c x 0 (nI (min T 20) - (1 : Int32)) 0 _ rfl (sub1_int (by omega)) with hx | ⟨hx, i, -, hi, -, rfl⟩
  · refine Two.ref h 0 (by omega) (-52) rx0 ?_ (fun J hJ => by rw [mx J (hJ _ (by omega)), hx, ob_some, if_pos rfl]; exact jb2_id _)
    unfold X6_past
    rcases wi_c x 0 19 0 19 rfl rfl with hy | ⟨hy, i, -, hi, -, rfl⟩
    · rw [hy, ob_some, if_pos rfl]; exact jb2_id _
    · have hTi : T ≤ i := by
        refine Nat.le_of_not_lt (fun hlt => ?_)
        rw [wi_y (n := i) (nI i) 0 _ rfl (by omega) (by rw [show (0 : Int32).toInt = 0 from rfl]; omega) (by rw [sub1_int (by omega)]; omega)] at hx
        exact absurd (Option.some.inj hx) (by decide)
      rw [hy, ob_some, if_neg (by decide), rR.1, hI7, if_pos (nI_le hTi (by omega))]; exact jb2_id _
  have hx2 : X6_isWithin (nI i) 0 19 = some 1 := wi_y _ _ _ rfl (by omega) (by rw [show (0 : Int32).toInt = 0 from rfl]; omega) (by rw [show (19 : Int32).toInt = 19 from rfl]; omega)
  have hlt : ¬ nI T ≤ nI i := nI_ge (by omega) (by omega)
  rcases wi_c y 0 3 0 3 rfl rfl with hy | ⟨hy, w, -, hw, -, rfl⟩
  · exact Two.ref h 0 (by omega) (-52) rx0 (by unfold X6_past; rw [hx2, ob_some, if_neg (by decide), rR.1, hI7, if_neg hlt, hy, ob_some, if_pos rfl]; exact jb2_id _) (fun J hJ => by rw [mx J (hJ _ (by omega)), hx, ob_some, if_neg (by decide), hy, ob_some, if_pos rfl]; exact jb2_id _)
  · have hmod : (T - i) % 20 = (T + 20 - i) % 20 := by omega
    have hlt20 := Nat.mod_lt (T - i) (show 0 < 20 by omega)
    obtain ⟨x1, x2, x3, x4⟩ := hX i (by omega)
    obtain ⟨-, -, -, z4, z5, z6, z7, z8, -⟩ := SB_o OB2
    refine Two.same h (I 165 (704 + 4 * i + w)) ?_ ?_
    · unfold X6_past X1_tells
      rw [hx2, ob_some, if_neg (by decide), rR.1, hI7, if_neg hlt, hy, ob_some, if_neg (by decide), subN (by omega), floorMod_e (by omega), ob_some, wi20 _ hlt20, ob_some, if_neg (by decide), z4, z5, z6, z7, z8, cl_N (by omega), hmod]
      have hj : jin (nI ((T - i) % 20)) 20 := jin_N hlt20 (by omega)
      rw [hmod] at hj
      obtain rfl | rfl | rfl | rfl : w = 0 ∨ w = 1 ∨ w = 2 ∨ w = 3 := by omega
      · rw [if_pos (by decide), if_pos hj, ob_some, x1, Nat.add_zero]
      · rw [if_neg (by decide), if_pos (by decide), if_pos hj, ob_some, x2, show 704 + 4 * i + 1 = 705 + 4 * i by omega]
      · rw [if_neg (by decide), if_neg (by decide), if_pos (by decide), if_pos hj, ob_some, x3, show 704 + 4 * i + 2 = 706 + 4 * i by omega]
      · rw [if_neg (by decide), if_neg (by decide), if_neg (by decide), if_pos hj, ob_some, x4, show 704 + 4 * i + 3 = 707 + 4 * i by omega]
    · rw [mx I rfl, hx, ob_some, if_neg (by decide), hy, ob_some, if_neg (by decide), show (704 : Int32) = nI 704 from rfl, show (4 : Int32) = nI 4 from rfl, pk_mul, nI_add, nI_add, if_pos (jin_N (by omega) (by omega)), cl_N (by omega)]
/-- a level of the class, or none -/
theorem lvA_c (h : GG B cnt mode T S I L) (x : Int32) : (X4_levelAt 2 x I = some 0 ∧ ∀ J : jI, J 165 = I 165 → X7_isLevel 164 x J = some 0) ∨ (∃ l, l < cnt ∧ x = nI (l + 1) ∧ X4_levelAt 2 x I = some (2 + 10 + 9 * l) ∧ LB (2 + 10 + 9 * l) ∧ ∀ J : jI, J 165 = I 165 → X7_isLevel 164 x J = some 1) := by
  have hc4 := h.1.1.1
  rcases lev_c h x with ⟨e1, e2⟩ | ⟨l, hl, rfl, e1, e2⟩
  · refine Or.inl ⟨?_, e2⟩
    unfold X6_isWithin at e1
    unfold X4_levelAt
    by_cases c1 : x < 1
    · rw [if_pos c1]
    · rw [if_neg c1] at e1 ⊢
      by_cases c2 : I 2 1 < x
      · rw [if_pos c2]
      · rw [if_neg c2] at e1
        exact absurd (Option.some.inj e1) (by decide)
  · exact Or.inr ⟨l, hl, rfl, levelAt_e OB2 I h.1.2.1.1 hc4 hl, LB_o OB2 (by omega), e2⟩
theorem t_slot (h : GG B cnt mode T S I L) (x y z : Int32) : Two B L (X6_slot 1 x y z) (X7_slot 164 x y z) I := by
  have hc4 := h.1.1.1
  rcases lvA_c h x with ⟨e1, e2⟩ | ⟨l, hl, rfl, e1, hb, e2⟩
  · exact Two.ref h 0 (by omega) (-52) rx0 (by unfold X6_slot; rw [rR.1, e1, ob_some, if_pos rfl]; exact jb2_id _) (fun J hJ => by unfold X7_slot; rw [e2 J (hJ _ (by omega)), ob_some, if_pos rfl]; exact jb2_id _)
  have hL := h.1.2.2.1 l hl
  have hs := hL.1.1
  have hof : ∀ J : jI, J 165 = I 165 → X7_of 164 (nI l) 0 J = some (nI (S l)) := fun J hJ => by
    rw [of_e 0 l 0 rfl (by omega), hJ, Nat.add_zero, hL.1.2.1.2]
  rcases wi_c y 0 (nI (S l) - (1 : Int32)) 0 _ rfl (sub1_int (by omega)) with hy | ⟨hy, k, -, hk, -, rfl⟩
  · exact Two.ref h 0 (by omega) (-52) rx0 (by unfold X6_slot; rw [rR.1, e1, ob_some, if_neg hb.1, hL.1.2.1.1, hy, ob_some, if_pos rfl]; exact jb2_id _) (fun J hJ => by unfold X7_slot; rw [e2 J (hJ _ (by omega)), ob_some, if_neg (by decide), nI_pred, hof J (hJ _ (by omega)), ob_some, within_e y 0 _ 0 _ rfl rfl, hy, ob_some, if_pos rfl]; exact jb2_id _)
  rcases wi_c z 0 5 0 5 rfl rfl with hz | ⟨hz, w, -, hw, -, rfl⟩
  · exact Two.ref h 0 (by omega) (-52) rx0 (by unfold X6_slot; rw [rR.1, e1, ob_some, if_neg hb.1, hL.1.2.1.1, hy, ob_some, if_neg (by decide), hz, ob_some, if_pos rfl]; exact jb2_id _) (fun J hJ => by unfold X7_slot; rw [e2 J (hJ _ (by omega)), ob_some, if_neg (by decide), nI_pred, hof J (hJ _ (by omega)), ob_some, within_e _ 0 _ 0 _ rfl rfl, hy, ob_some, if_neg (by decide), within_e z 0 5 0 5 rfl rfl, hz, ob_some, if_pos rfl]; exact jb2_id _)
  have hk16 : k < 16 := by omega
  have hj : jin (nI k) 16 := jin_N hk16 (by omega)
  obtain ⟨p1, p2⟩ := hL.2.1 k hk16
  have cM : ∀ v, X2_tellsSlot (2 + 10 + 9 * l) (nI k) (nI w) I = some v → (X7_note 164 (nI l) (nI k) 0 I).bind (fun (y19 : Int32) =>
if 0 ≤ y19 then (
if nI w = 0 then (
(X7_note 164 (nI l) (nI k) (0 : Int32) I).bind (fun (y25 : Int32) =>
some (y25, I)))
else (
(X7_note 164 (nI l) (nI k) (nI w + (1 : Int32)) I).bind (fun (y23 : Int32) =>
some (y23, I))))
else (
some ((-1 : Int32), I))) = some (v, I) → Two B L (X6_slot 1 (nI (l + 1)) (nI k) (nI w)) (X7_slot 164 (nI (l + 1)) (nI k) (nI w)) I := fun v z1 z2 => by
    refine Two.same h v ?_ ?_
    · unfold X6_slot
      rw [rR.1, e1, ob_some, if_neg hb.1, hL.1.2.1.1, hy, ob_some, if_neg (by decide), hz, ob_some, if_neg (by decide), z1, ob_some]
    · unfold X7_slot
      rw [e2 I rfl, ob_some, if_neg (by decide), nI_pred, hof I rfl, ob_some, within_e _ 0 _ 0 _ rfl rfl, hy, ob_some, if_neg (by decide), within_e _ 0 5 0 5 rfl rfl, hz, ob_some, if_neg (by decide), jlet_d]
      exact z2
  have n0 : X7_note 164 (nI l) (nI k) 0 I = some (I 165 (140 + 140 * l + 7 * k)) := by rw [note_e 0 l k 0 rfl (by omega), Nat.add_zero]
  rw [n0, ob_some, ob_some] at cM
  rcases p2 with ⟨q1, -⟩ | ⟨p, hp, q1, -, -, -, ⟨q5, q6⟩, ⟨a3, -, b3, c3⟩, ⟨a4, -, b4, c4⟩, ⟨a5, -, b5, c5⟩, q7, q8⟩
  · refine cM (-1) ?_ (by rw [q1, if_neg (by decide)])
    unfold X2_tellsSlot
    rw [isSlot_e hk16, ob_some, if_neg (by decide), pageIn_e hb hk16, ob_some, p1, q1, if_pos rfl]
  · obtain ⟨-, hb1, hb2, hb3, hb4, hb5, hb6, hb7, hb8⟩ := id hb
    rw [q1, if_pos (nI_pos' (by omega))] at cM
    have tel : ∀ v, (if nI w = (0 : Int32) then some (nI p) else if nI w = 1 then (if I (2 + 10 + 9 * l + 3) k = 0 then some 0 else some 1) else if nI w = 2 then some (I (2 + 10 + 9 * l + 4) k) else if nI w = 3 then some (I (2 + 10 + 9 * l + 5) k) else if nI w = 4 then some (I (2 + 10 + 9 * l + 6) k) else (if I (2 + 10 + 9 * l + 7) k = 0 then some 0 else some 1)) = some v → X2_tellsSlot (2 + 10 + 9 * l) (nI k) (nI w) I = some v := fun v hv => by
      unfold X2_tellsSlot
      rw [isSlot_e hk16, ob_some, if_neg (by decide), pageIn_e hb hk16, ob_some, p1, q1, if_neg (m1_ne (by omega)), if_pos hj, if_pos hj, if_pos hj, if_pos hj, if_pos hj, if_pos hj, hb1, hb3, hb4, hb5, hb6, hb7, cl_N (by omega), p1, q1]
      exact hv
    have b01 : ∀ (u : Int32), (u = 0 ∨ u = 1) → (if u = 0 then some (0 : Int32) else some 1) = some u := fun u hu => by
      rcases hu with rfl | rfl
      · rfl
      · rw [if_neg (by decide)]
    obtain rfl | rfl | rfl | rfl | rfl | rfl : w = 0 ∨ w = 1 ∨ w = 2 ∨ w = 3 ∨ w = 4 ∨ w = 5 := by omega
    · refine cM (nI p) (tel _ ?_) ?_
      · rw [if_pos (by decide)]
      · rw [if_pos (by decide)]
    · refine cM _ (tel (I 165 (140 + 140 * l + 7 * k + 2)) ?_) ?_
      · rw [if_neg (by decide), if_pos (by decide), q5]; exact b01 _ q6
      · rw [if_neg (by decide), note_e (nI 1 + 1) l k 2 (nI_1 1) (by omega), ob_some]
    · refine cM _ (tel (nI a3) ?_) ?_
      · rw [if_neg (by decide), if_neg (by decide), if_pos (by decide), b3]
      · rw [if_neg (by decide), note_e (nI 2 + 1) l k 3 (nI_1 2) (by omega), ob_some, c3]
    · refine cM _ (tel (nI a4) ?_) ?_
      · rw [if_neg (by decide), if_neg (by decide), if_neg (by decide), if_pos (by decide), b4]
      · rw [if_neg (by decide), note_e (nI 3 + 1) l k 4 (nI_1 3) (by omega), ob_some, c4]
    · refine cM _ (tel (nI a5) ?_) ?_
      · rw [if_neg (by decide), if_neg (by decide), if_neg (by decide), if_neg (by decide), if_pos (by decide), b5]
      · rw [if_neg (by decide), note_e (nI 4 + 1) l k 5 (nI_1 4) (by omega), ob_some, c5]
    · refine cM _ (tel (I 165 (140 + 140 * l + 7 * k + 6)) ?_) ?_
      · rw [if_neg (by decide), if_neg (by decide), if_neg (by decide), if_neg (by decide), if_neg (by decide), q7]; exact b01 _ q8
      · rw [if_neg (by decide), note_e (nI 5 + 1) l k 6 (nI_1 5) (by omega), ob_some]
end ASK
