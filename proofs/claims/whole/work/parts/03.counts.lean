def pp_ct (P : Nat → Bool) : Nat → Nat
  | 0 => 0
  | m + 1 => if P m = true then pp_ct P m + 1 else pp_ct P m
theorem pp_ct_y {P : Nat → Bool} {m : Nat} (h : P m = true) : pp_ct P (m + 1) = pp_ct P m + 1 := by rw [pp_ct]; exact if_pos h
theorem pp_ct_n {P : Nat → Bool} {m : Nat} (h : ¬ P m = true) : pp_ct P (m + 1) = pp_ct P m := by rw [pp_ct]; exact if_neg h
theorem pp_ct_le (P : Nat → Bool) : ∀ m, pp_ct P m ≤ m := by
  intro m
  induction m with
  | zero => exact Nat.le_refl _
  | succ m ih =>
    by_cases h : P m = true
    · rw [pp_ct_y h]; omega
    · rw [pp_ct_n h]; omega
theorem pp_ct_eq {P Q : Nat → Bool} : ∀ m, (∀ j, j < m → P j = Q j) → pp_ct P m = pp_ct Q m := by
  intro m
  induction m with
  | zero => exact fun _ => rfl
  | succ m ih =>
    intro h
    have e := ih (fun j hj => h j (by omega))
    have g := h m (by omega)
    rw [pp_ct, pp_ct, e, g]
theorem pp_ct_0 {P : Nat → Bool} : ∀ m, (∀ j, j < m → P j = false) → pp_ct P m = 0 := by
  intro m
  induction m with
  | zero => exact fun _ => rfl
  | succ m ih =>
    intro h
    rw [pp_ct_n (by rw [h m (by omega)]; decide)]
    exact ih (fun j hj => h j (by omega))
theorem pp_ct_up {P : Nat → Bool} {m : Nat} : ∀ d, (∀ j, m ≤ j → P j = false) → pp_ct P (m + d) = pp_ct P m := by
  intro d h
  induction d with
  | zero => rfl
  | succ d ih =>
    rw [← Nat.add_assoc, pp_ct_n (by rw [h (m + d) (by omega)]; decide)]
    exact ih
def pp_any (P : Nat → Bool) : Nat → Bool
  | 0 => false
  | m + 1 => pp_any P m || P m
theorem pp_any_y {P : Nat → Bool} {m : Nat} (h : P m = true) : pp_any P (m + 1) = true := by
  rw [pp_any, h, Bool.or_true]
theorem pp_any_n {P : Nat → Bool} {m : Nat} (h : ¬ P m = true) : pp_any P (m + 1) = pp_any P m := by
  rw [pp_any, Bool.eq_false_iff.mpr h, Bool.or_false]
theorem pp_any_t {P : Nat → Bool} {j : Nat} : ∀ m, j < m → P j = true → pp_any P m = true := by
  intro m
  induction m with
  | zero => exact fun h => absurd h (Nat.not_lt_zero _)
  | succ m ih =>
    intro hj h
    by_cases e : j = m
    · rw [e] at h
      exact pp_any_y h
    · rw [pp_any, ih (by omega) h, Bool.true_or]
theorem pp_any_f {P : Nat → Bool} : ∀ m, (∀ j, j < m → ¬ P j = true) → pp_any P m = false := by
  intro m
  induction m with
  | zero => exact fun _ => rfl
  | succ m ih =>
    intro h
    rw [pp_any_n (h m (by omega))]
    exact ih (fun j hj => h j (by omega))
def pp_su (F : Nat → Bool) (V : Nat → Int32) : Nat → Int32
  | 0 => 0
  | m + 1 => if F m = true then pp_su F V m + V m else pp_su F V m
theorem pp_su_y {F : Nat → Bool} {V : Nat → Int32} {m : Nat} (h : F m = true) : pp_su F V (m + 1) = pp_su F V m + V m := by rw [pp_su]; exact if_pos h
theorem pp_su_n {F : Nat → Bool} {V : Nat → Int32} {m : Nat} (h : ¬ F m = true) : pp_su F V (m + 1) = pp_su F V m := by rw [pp_su]; exact if_neg h
def pp_sm (f : Nat → Nat) : Nat → Nat
  | 0 => 0
  | m + 1 => pp_sm f m + f m
theorem pp_sm_eq {f g : Nat → Nat} : ∀ m, (∀ j, j < m → f j = g j) → pp_sm f m = pp_sm g m := by
  intro m
  induction m with
  | zero => exact fun _ => rfl
  | succ m ih =>
    intro h
    rw [pp_sm, pp_sm, ih (fun j hj => h j (by omega)), h m (by omega)]
theorem pp_sm_add (f g : Nat → Nat) : ∀ m, pp_sm (fun j => f j + g j) m = pp_sm f m + pp_sm g m := by
  intro m
  induction m with
  | zero => rfl
  | succ m ih =>
    rw [pp_sm, pp_sm, pp_sm, ih]
    omega
theorem pp_sm_ct (P : Nat → Bool) : ∀ m, pp_sm (fun j => if P j = true then 1 else 0) m = pp_ct P m := by
  intro m
  induction m with
  | zero => rfl
  | succ m ih =>
    rw [pp_sm, ih]
    by_cases h : P m = true
    · rw [pp_ct_y h]
      show pp_ct P m + (if P m = true then 1 else 0) = _
      rw [if_pos h]
    · rw [pp_ct_n h]
      show pp_ct P m + (if P m = true then 1 else 0) = _
      rw [if_neg h, Nat.add_zero]
/-- pairs counted from their lower id, or from their upper -/
theorem pp_pairs (P : Nat → Nat → Bool) : ∀ m, pp_sm (fun x => pp_ct (fun y => decide (x < y) && P x y) m) m = pp_sm (fun y => pp_ct (fun x => P x y) y) m := by
  intro m
  induction m with
  | zero => rfl
  | succ m ih =>
    have e1 : ∀ x, x < m → pp_ct (fun y => decide (x < y) && P x y) (m + 1) = pp_ct (fun y => decide (x < y) && P x y) m + (if P x m = true then 1 else 0) := by
      intro x hx
      by_cases h : P x m = true
      · rw [if_pos h]
        exact pp_ct_y (P := fun y => decide (x < y) && P x y) (by show (decide (x < m) && P x m) = true; simp [h, hx])
      · rw [if_neg h]
        exact pp_ct_n (P := fun y => decide (x < y) && P x y) (by show ¬ (decide (x < m) && P x m) = true; simp [h])
    have e2 : pp_ct (fun y => decide (m < y) && P m y) (m + 1) = 0 := by
      refine pp_ct_0 (m + 1) (fun j hj => ?_)
      show (decide (m < j) && P m j) = false
      have q : ¬ m < j := by omega
      simp [q]
    have e3 : pp_sm (fun x => if P x m = true then 1 else 0) m = pp_ct (fun x => P x m) m := pp_sm_ct (fun x => P x m) m
    rw [pp_sm, e2, pp_sm_eq m e1, pp_sm_add, ih, e3, pp_sm, Nat.add_zero]
/-- truncate's store, done below m -/
def pp_tr (H : Nat → Int32) (P : Nat → Bool) (m : Nat) : Nat → Int32 := fun j => if j < m ∧ P j = true then 0 else H j
theorem pp_tr_0 (H : Nat → Int32) (P : Nat → Bool) : pp_tr H P 0 = H := by
  funext j
  exact if_neg (fun w => absurd w.1 (Nat.not_lt_zero _))
theorem pp_tr_m {H : Nat → Int32} {P : Nat → Bool} {m : Nat} : pp_tr H P m m = H m := if_neg (fun w => absurd w.1 (Nat.lt_irrefl _))
theorem pp_tr_y {H : Nat → Int32} {P : Nat → Bool} {m : Nat} (h : P m = true) : upd (pp_tr H P m) m 0 = pp_tr H P (m + 1) := by
  funext j
  by_cases e : j = m
  · rw [e, pk_us]
    exact (if_pos ⟨Nat.lt_succ_self m, h⟩).symm
  · rw [pk_un e]
    unfold pp_tr
    by_cases c : j < m ∧ P j = true
    · rw [if_pos c, if_pos ⟨by omega, c.2⟩]
    · rw [if_neg c, if_neg (fun w => c ⟨by omega, w.2⟩)]
theorem pp_tr_n {H : Nat → Int32} {P : Nat → Bool} {m : Nat} (h : ¬ P m = true) : pp_tr H P (m + 1) = pp_tr H P m := by
  funext j
  unfold pp_tr
  by_cases e : j = m
  · rw [e, if_neg (fun w => h w.2), if_neg (fun w => h w.2)]
  · by_cases c : j < m ∧ P j = true
    · rw [if_pos c, if_pos ⟨by omega, c.2⟩]
    · rw [if_neg c, if_neg (fun w => c ⟨by omega, w.2⟩)]
