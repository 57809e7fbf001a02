/-! THE WORLD: cells by number (1 ..), all made behind the address b: shapes, references, ints, longs -/
abbrev jI : Type := Nat → Nat → Int32
abbrev jL : Type := Nat → Nat → Int64
abbrev jS : Type := Nat → Nat
abbrev jR : Type := Nat → Nat → Nat
def jref (b x : Nat) : Value := if x = 0 then .null else .ref (b + x)
def jrow {α : Type} (f : Nat → α) (r : Nat) (g : α) : Nat → α := fun a => if a = r then g else f a
def ju1 {α : Type} (f : Nat → α) (k : Nat) (v : α) : Nat → α := fun j => if j = k then v else f j
def jup {α : Type} (f : Nat → Nat → α) (r k : Nat) (v : α) : Nat → Nat → α := jrow f r (ju1 (f r) k v)
def jlet {α β : Type} (a : α) (f : α → β) : β := f a
def jfx {κ : Type} (F : κ → κ) (z : κ) : Nat → κ
  | 0 => z
  | n + 1 => F (jfx F z n)
def jb2 {α β ρ : Type} (o : Option (α × β)) (f : α → β → Option ρ) : Option ρ := o.bind (fun x => f x.1 x.2)
def jb3 {α β γ ρ : Type} (o : Option (α × β × γ)) (f : α → β → γ → Option ρ) : Option ρ := o.bind (fun x => f x.1 x.2.1 x.2.2)
abbrev jin (i : Int32) (n : Nat) : Prop := 0 ≤ i.toInt ∧ i.toInt < n
theorem jin_vp {i : Int32} {n : Nat} (h : jin i n) : vp_in i n := vp_in_iff.mpr h
theorem jin_lt {i : Int32} {n : Nat} (h : jin i n) : i.toNatClampNeg < n := by
  have := jin_vp h
  exact Nat.not_le.mp fun q => this (Or.inr q)
def jfrt : List (List Bool) := (List.range 8).map (fun ci => match vwCl[ci]? with
  | some q => (List.range q.2.2).map (fun k => match (q.2.1 k).2.2.1.toList.head? with
    | some c => c == 'L' || c == '['
    | none => false)
  | none => [])
def jfr (ci k : Nat) : Bool := (jfrt.getD ci []).getD k false
def jfn (ci : Nat) : Nat := (jfrt.getD ci []).length
def jfs (b ci : Nat) (rf : Nat → Nat) (I : Nat → Int32) : List Value := (List.range (jfn ci)).map (fun k => if jfr ci k = true then jref b (rf k) else .int (I k))
def jopt (b : Nat) (rf : Nat → Nat) : Nat → Option Nat := fun k => if rf k = 0 then none else some (b + rf k)
def jcell (tc : Nat → ClassId) (b c : Nat) (rf : Nat → Nat) (I : Nat → Int32) (L : Nat → Int64) : va_E := match c / 1000 with
  | 0 => .inr (c - 1, jfs b (c - 1) rf I)
  | 1 => .inl (tc 0, c % 1000, .inl I)
  | 2 => .inl (tc 1, c % 1000, .inl I)
  | 3 => .inl (tc 2, c % 1000, .inr (.inl L))
  | t + 4 => .inl (tc (t + 3), c % 1000, .inr (.inr (.inr (.inr (jopt b rf)))))
def jtys (tc : Nat → ClassId) : List (ClassId × FieldType) := [(tc 0, .int), (tc 1, .boolean), (tc 2, .long), (tc 3, .object RX2), (tc 4, .object RX3)]
def jA (b : Nat) : Nat → Prop := fun q => b + 1 ≤ q
def jW (D : va_G) (tc : Nat → ClassId) (b n : Nat) (sh : jS) (rf : jR) (I : jI) (L : jL) (H : Heap) : Prop :=
  (∀ r, sh r ≠ 0 ↔ 0 < r ∧ r ≤ n) ∧ ∀ r, sh r ≠ 0 → va_at D vwCl (b + r, jcell tc b (sh r) (rf r) (I r) (L r)) H
/-- what one method's world looks like as the kit's list -/
def jws (tc : Nat → ClassId) (b n : Nat) (sh : jS) (rf : jR) (I : jI) (L : jL) : va_W := (List.range n).map (fun j => (b + (j + 1), jcell tc b (sh (j + 1)) (rf (j + 1)) (I (j + 1)) (L (j + 1))))
theorem jws_at {tc : Nat → ClassId} {b n : Nat} {sh : jS} {rf : jR} {I : jI} {L : jL} {k : Nat} {q : Nat × va_E} (h : (jws tc b n sh rf I L)[k]? = some q) : k < n ∧ q = (b + (k + 1), jcell tc b (sh (k + 1)) (rf (k + 1)) (I (k + 1)) (L (k + 1))) := by
  have hk : k < n := by
    have := (List.getElem?_eq_some_iff.mp h).1
    simpa [jws] using this
  refine ⟨hk, ?_⟩
  rw [jws, List.getElem?_map, List.getElem?_range hk] at h
  exact (Option.some.inj h).symm
theorem jws_get {tc : Nat → ClassId} {b n : Nat} {sh : jS} {rf : jR} {I : jI} {L : jL} {r : Nat} (h0 : 0 < r) (h1 : r ≤ n) : (jws tc b n sh rf I L)[r - 1]? = some (b + r, jcell tc b (sh r) (rf r) (I r) (L r)) := by
  obtain ⟨j, rfl⟩ : ∃ j, r = j + 1 := ⟨r - 1, by omega⟩
  rw [jws, List.getElem?_map, Nat.add_sub_cancel, List.getElem?_range (by omega)]
  rfl
theorem jW.P {D : va_G} {tc : Nat → ClassId} {b n : Nat} {sh : jS} {rf : jR} {I : jI} {L : jL} {H : Heap} (h : jW D tc b n sh rf I L H) : va_P D vwCl (jws tc b n sh rf I L) H := by
  intro k q hq
  obtain ⟨hk, rfl⟩ := jws_at hq
  exact h.2 (k + 1) ((h.1 _).mpr ⟨by omega, by omega⟩)
theorem jws_D {tc : Nat → ClassId} {b n : Nat} {sh : jS} {rf : jR} {I : jI} {L : jL} : va_D (jA b) (jws tc b n sh rf I L) := by
  refine ⟨fun i j p q hi hj hpq => ?_, fun k q hq => ?_⟩
  · obtain ⟨-, rfl⟩ := jws_at hi
    obtain ⟨-, rfl⟩ := jws_at hj
    have : b + (i + 1) = b + (j + 1) := hpq
    omega
  · obtain ⟨-, rfl⟩ := jws_at hq
    show b + 1 ≤ b + (k + 1)
    omega
theorem jW.place {D : va_G} {tc : Nat → ClassId} {b n : Nat} {sh : jS} {rf : jR} {I : jI} {L : jL} {H : Heap} (h : jW D tc b n sh rf I L H) {r : Nat} (hr : sh r ≠ 0) : (jws tc b n sh rf I L)[r - 1]? = some (b + r, jcell tc b (sh r) (rf r) (I r) (L r)) := jws_get ((h.1 r).mp hr).1 ((h.1 r).mp hr).2
/-- a world of which one cell's content is put anew -/
theorem jW.put {D : va_G} {tc : Nat → ClassId} {b n : Nat} {sh : jS} {rf rf' : jR} {I I' : jI} {L L' : jL} {H H1 : Heap} (h : jW D tc b n sh rf I L H) {r : Nat}
    (hc : va_at D vwCl (b + r, jcell tc b (sh r) (rf' r) (I' r) (L' r)) H1) (hq : ∀ q, q ≠ b + r → H1[q]? = H[q]?) (ho : ∀ a, a ≠ r → rf' a = rf a ∧ I' a = I a ∧ L' a = L a) : jW D tc b n sh rf' I' L' H1 := by
  refine ⟨h.1, fun a ha => ?_⟩
  by_cases e : a = r
  · subst e; exact hc
  · obtain ⟨e1, e2, e3⟩ := ho a e
    rw [e1, e2, e3]
    exact (h.2 a ha).kept (hq _ (by show b + a ≠ b + r; omega))
theorem jW.ofSet {D : va_G} {tc : Nat → ClassId} {b n : Nat} {sh : jS} {rf rf' : jR} {I I' : jI} {L L' : jL} {H H1 : Heap} (h : jW D tc b n sh rf I L H) {r : Nat} (hr : sh r ≠ 0)
    (hP : va_P D vwCl ((jws tc b n sh rf I L).set (r - 1) (b + r, jcell tc b (sh r) (rf' r) (I' r) (L' r))) H1) (ho : ∀ a, a ≠ r → rf' a = rf a ∧ I' a = I a ∧ L' a = L a) : jW D tc b n sh rf' I' L' H1 := by
  refine ⟨h.1, fun a ha => ?_⟩
  have hb := (h.1 a).mp ha
  have hbr := (h.1 r).mp hr
  have hl : (jws tc b n sh rf I L).length = n := by simp [jws]
  by_cases e : a = r
  · subst e
    exact hP (a - 1) _ (List.getElem?_set_self (by omega))
  · obtain ⟨e1, e2, e3⟩ := ho a e
    rw [e1, e2, e3]
    exact hP (a - 1) _ (by rw [List.getElem?_set_ne (by omega)]; exact h.place ha)
theorem jcell_o {tc : Nat → ClassId} {b c : Nat} {rf : Nat → Nat} {I : Nat → Int32} {L : Nat → Int64} (h : c < 1000) : jcell tc b c rf I L = .inr (c - 1, jfs b (c - 1) rf I) := by
  unfold jcell
  rw [show c / 1000 = 0 by omega]
theorem jcell_i {tc : Nat → ClassId} {b c : Nat} {rf : Nat → Nat} {I : Nat → Int32} {L : Nat → Int64} (h : c / 1000 = 1) : jcell tc b c rf I L = .inl (tc 0, c % 1000, .inl I) := by
  unfold jcell
  rw [h]
theorem jcell_z {tc : Nat → ClassId} {b c : Nat} {rf : Nat → Nat} {I : Nat → Int32} {L : Nat → Int64} (h : c / 1000 = 2) : jcell tc b c rf I L = .inl (tc 1, c % 1000, .inl I) := by
  unfold jcell
  rw [h]
theorem jcell_l {tc : Nat → ClassId} {b c : Nat} {rf : Nat → Nat} {I : Nat → Int32} {L : Nat → Int64} (h : c / 1000 = 3) : jcell tc b c rf I L = .inl (tc 2, c % 1000, .inr (.inl L)) := by
  unfold jcell
  rw [h]
theorem jcell_q {tc : Nat → ClassId} {b c : Nat} {rf : Nat → Nat} {I : Nat → Int32} {L : Nat → Int64} (t : Nat) (h : c / 1000 = t + 4) : jcell tc b c rf I L = .inl (tc (t + 3), c % 1000, .inr (.inr (.inr (.inr (jopt b rf))))) := by
  unfold jcell
  rw [h]
theorem jfs_get {b ci : Nat} {rf : Nat → Nat} {I : Nat → Int32} {k : Nat} (hk : k < jfn ci) : (jfs b ci rf I)[k]? = some (if jfr ci k = true then jref b (rf k) else .int (I k)) := by
  rw [jfs, List.getElem?_map, List.getElem?_range hk]
  rfl
theorem jfs_setI {b ci : Nat} {rf : Nat → Nat} {I : Nat → Int32} {k : Nat} {v : Int32} (hf : jfr ci k = false) : (jfs b ci rf I).set k (.int v) = jfs b ci rf (ju1 I k v) := by
  apply List.ext_getElem?
  intro i
  by_cases hi : i < jfn ci
  · rw [jfs_get hi]
    by_cases e : i = k
    · subst e
      rw [List.getElem?_set_self (by simp [jfs]; exact hi)]
      simp [hf, ju1]
    · rw [List.getElem?_set_ne (Ne.symm e), jfs_get hi]
      simp [ju1, e]
  · rw [List.getElem?_eq_none (by simp [jfs]; omega), List.getElem?_eq_none (by simp [jfs]; omega)]
theorem jfs_setR {b ci : Nat} {rf : Nat → Nat} {I : Nat → Int32} {k : Nat} {v : Nat} (hf : jfr ci k = true) : (jfs b ci rf I).set k (jref b v) = jfs b ci (ju1 rf k v) I := by
  apply List.ext_getElem?
  intro i
  by_cases hi : i < jfn ci
  · rw [jfs_get hi]
    by_cases e : i = k
    · subst e
      rw [List.getElem?_set_self (by simp [jfs]; exact hi)]
      simp [hf, ju1]
    · rw [List.getElem?_set_ne (Ne.symm e), jfs_get hi]
      simp [ju1, e]
  · rw [List.getElem?_eq_none (by simp [jfs]; omega), List.getElem?_eq_none (by simp [jfs]; omega)]
theorem jfs_length {b ci : Nat} {rf : Nat → Nat} {I : Nat → Int32} : (jfs b ci rf I).length = jfn ci := by simp [jfs]
theorem jrow_self {α : Type} (f : Nat → α) (r : Nat) (g : α) : jrow f r g r = g := by simp [jrow]
theorem jrow_ne {α : Type} (f : Nat → α) {r a : Nat} (g : α) (h : a ≠ r) : jrow f r g a = f a := by simp [jrow, h]
theorem jup_self {α : Type} (f : Nat → Nat → α) (r k : Nat) (v : α) : jup f r k v r = ju1 (f r) k v := by simp [jup, jrow]
theorem jup_ne {α : Type} (f : Nat → Nat → α) {r k : Nat} (v : α) {a : Nat} (h : a ≠ r) : jup f r k v a = f a := by simp [jup, jrow, h]
