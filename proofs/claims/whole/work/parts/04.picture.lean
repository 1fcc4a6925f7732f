def pp_i (b : Bool) : Int32 := if b = true then 1 else 0
theorem pp_i_t {b : Bool} (h : b = true) : pp_i b = 1 := if_pos h
theorem pp_i_f {b : Bool} (h : ¬ b = true) : pp_i b = 0 := if_neg h
theorem pp_br {b : Bool} {A B : Prop} (f : b = true → B) (g : ¬ b = true → A) : (pp_i b = 0 → A) ∧ (¬ pp_i b = 0 → B) := by
  by_cases h : b = true
  · rw [pp_i_t h]; exact br_f (by decide) (f h)
  · rw [pp_i_f h]; exact br_t rfl (g h)
theorem pp_nb (b : Bool) : narrow .boolean (.int (pp_i b)) = .int (pp_i b) := by
  cases b <;> rfl
theorem pp_v1 : vp_nar .boolean 1 = 1 := rfl
theorem pp_v0 : vp_nar .boolean 0 = 0 := rfl
theorem pp_40 : nI 40 = 40 := by decide +kernel
theorem pp_256 : nI 256 = 256 := by decide +kernel
theorem pp_255 : nI 255 = 255 := by decide +kernel
theorem pp_8 : nI 8 = 8 := by decide +kernel
theorem pp_4 : nI 4 = 4 := by decide +kernel
theorem pp_39 : nI 39 = 39 := by decide +kernel
/-- term t holds for a row of key x and value y -/
def pp_tm (L G E : Nat → Int32) (x y : Int32) (t : Nat) : Bool := decide (L t ≤ x) && (decide (x ≤ G t) && decide (E t ≤ y))
theorem pp_tm_t {L G E : Nat → Int32} {x y : Int32} {t : Nat} (a : L t ≤ x) (b : x ≤ G t) (c : E t ≤ y) : pp_tm L G E x y t = true := by
  unfold pp_tm
  rw [decide_eq_true a, decide_eq_true b, decide_eq_true c]
  decide
theorem pp_tm_e {L G E : Nat → Int32} {x y : Int32} {t : Nat} (h : pp_tm L G E x y t = true) : L t ≤ x ∧ x ≤ G t ∧ E t ≤ y := by
  unfold pp_tm at h
  rw [Bool.and_eq_true, Bool.and_eq_true] at h
  exact ⟨of_decide_eq_true h.1, of_decide_eq_true h.2.1, of_decide_eq_true h.2.2⟩
def pp_st (L G E : Nat → Int32) (tc : Nat) (x y : Int32) : Bool := pp_any (pp_tm L G E x y) tc
/-- row id fulfils the terms -/
def pp_fit (H K V L G E : Nat → Int32) (tc : Nat) (id : Nat) : Bool := decide (¬ H id = 0) && pp_st L G E tc (K id) (V id)
theorem pp_fit_n {H K V L G E : Nat → Int32} {tc id : Nat} (h : H id = 0) : pp_fit H K V L G E tc id = false := by
  unfold pp_fit
  rw [decide_eq_false (fun w => w h), Bool.false_and]
theorem pp_fit_y {H K V L G E : Nat → Int32} {tc id : Nat} (h : ¬ H id = 0) : pp_fit H K V L G E tc id = pp_st L G E tc (K id) (V id) := by
  unfold pp_fit
  rw [decide_eq_true h, Bool.true_and]
/-- row id lies in partition i -/
def pp_ps (H K C : Nat → Int32) (i id : Nat) : Bool := decide (¬ H id = 0) && decide (pp_pt C (K id).toNatClampNeg = i)
theorem pp_ps_n {H K C : Nat → Int32} {i id : Nat} (h : H id = 0) : pp_ps H K C i id = false := by
  unfold pp_ps
  rw [decide_eq_false (fun w => w h), Bool.false_and]
theorem pp_ps_y {H K C : Nat → Int32} {i id : Nat} (h : ¬ H id = 0) : pp_ps H K C i id = decide (pp_pt C (K id).toNatClampNeg = i) := by
  unfold pp_ps
  rw [decide_eq_true h, Bool.true_and]
theorem pp_ps_h {H K C : Nat → Int32} {i id : Nat} (h : pp_ps H K C i id = true) : ¬ H id = 0 ∧ pp_pt C (K id).toNatClampNeg = i := by
  unfold pp_ps at h
  rw [Bool.and_eq_true] at h
  exact ⟨of_decide_eq_true h.1, of_decide_eq_true h.2⟩
theorem pp_fit_h {H K V L G E : Nat → Int32} {tc id : Nat} (h : pp_fit H K V L G E tc id = true) : ¬ H id = 0 := by
  unfold pp_fit at h
  rw [Bool.and_eq_true] at h
  exact of_decide_eq_true h.1
/-- o comes before id -/
def pp_cb (K : Nat → Int32) (id o : Nat) : Bool := decide (K o < K id) || (decide (K o = K id) && decide (o < id))
/-- pairs by the upper id, as the component counts them -/
theorem pp_prX (K : Nat → Int32) (F : Nat → Bool) (m : Nat) : pp_sm (fun y => if F y = true then pp_ct (fun x => decide (K x = K y) && F x) y else 0) m = pp_sm (fun y => pp_ct (fun x => decide (K x = K y) && (F x && F y)) y) m := by
  refine pp_sm_eq m (fun y _ => ?_)
  show (if F y = true then pp_ct (fun x => decide (K x = K y) && F x) y else 0) = pp_ct (fun x => decide (K x = K y) && (F x && F y)) y
  by_cases h : F y = true
  · rw [if_pos h]
    refine pp_ct_eq y (fun x _ => ?_)
    show (decide (K x = K y) && F x) = (decide (K x = K y) && (F x && F y))
    rw [h, Bool.and_true]
  · rw [if_neg h]
    refine (pp_ct_0 y (fun x _ => ?_)).symm
    show (decide (K x = K y) && (F x && F y)) = false
    rw [Bool.eq_false_iff.mpr h, Bool.and_false, Bool.and_false]
theorem pp_prs (K : Nat → Int32) (F : Nat → Bool) (m : Nat) : pp_sm (fun y => if F y = true then pp_ct (fun x => decide (K x = K y) && F x) y else 0) m = pp_sm (fun x => pp_ct (fun y => decide (x < y) && (decide (K x = K y) && (F x && F y))) m) m :=
  (pp_prX K F m).trans (pp_pairs (fun x y => decide (K x = K y) && (F x && F y)) m).symm
/-- the keys' range -/
def pp_KR (K : Nat → Int32) : Prop := ∀ id, id < 40 → ∃ q, q ≤ 255 ∧ K id = nI q
theorem pp_KR_u {K : Nat → Int32} {j q : Nat} (h : pp_KR K) (hq : q ≤ 255) : pp_KR (upd K j (nI q)) := by
  intro id hid
  by_cases e : id = j
  · exact ⟨q, hq, by rw [e, pk_us]⟩
  · rw [pk_un e]; exact h id hid
/-- what ties the two states -/
def pp_J (K B C : Nat → Int32) (b : Nat → Nat) (pc tc : Nat) : Prop := pp_Bd b pc C ∧ (∀ i, i < pc → B i = nI (b i)) ∧ tc ≤ 4 ∧ pp_KR K
