section
variable {p t : Int32} {H K V B L G E C : Nat → Int32} {b : Nat → Nat} {pc tc : Nat} {post : Int32 → Prop}
theorem pp_xRop {i : Nat} (J : pp_J K B C b pc tc) (hi : i < pc) (hp : post (nI (pp_ct (pp_ps H K C i) 40))) : wpX_rowsOfPartition post (nI pc, t, H, K, V, B, L, G, E) (nI i) := by
  have key : ∃ n, ∀ a, a = nI (pp_ct (pp_ps H K C i) 0) → wX_rowsOfPartition_4 post (nI i) (nI pc) t H K V B L G E n a (nI 0) := by
    refine pp_lp (fun n j => ∀ a, a = nI (pp_ct (pp_ps H K C i) j) → wX_rowsOfPartition_4 post (nI i) (nI pc) t H K V B L G E n a (nI j)) (fun _ => True) 40 0 (by omega) trivial (fun n _ a ea => ?_) (fun n j _ hj _ ih a ea => ?_)
    · subst ea
      exact pk_le 40 40 (fun _ => hp) (fun h => absurd h (by decide))
    · subst ea
      refine pk_le 40 j (fun h => absurd h (by omega)) (fun _ => pp_xLies J hj hi H rfl (pp_br (fun h => nm_e (nm_r (nI_1 j) (ih trivial _ ?_))) (fun h => nm_r (nI_1 j) (ih trivial _ ?_))))
      · rw [pp_ct_y h, nI_1]
      · rw [pp_ct_n h]
  obtain ⟨n, h⟩ := key
  unfold wpX_rowsOfPartition
  exact ⟨n, h _ rfl⟩
theorem pp_xSt {x y : Int32} (h4 : tc ≤ 4) (hp : post (pp_i (pp_st L G E tc x y))) : wpX_someTermHolds post (p, nI tc, H, K, V, B, L, G, E) x y := by
  unfold wpX_someTermHolds
  refine pp_lp (fun n i => wX_someTermHolds_2 post x y p (nI tc) H K V B L G E n (nI i)) (fun i => ∀ j, j < i → ¬ pp_tm L G E x y j = true) tc 0 (Nat.zero_le _) (fun j hj => absurd hj (Nat.not_lt_zero _)) (fun n I0 => ?_) (fun n i _ hi Ii ih => ?_)
  · refine pk_le tc tc (fun _ => ?_) (fun h => absurd h (Nat.lt_irrefl _))
    have e : pp_st L G E tc x y = false := pp_any_f tc I0
    rw [e] at hp
    exact hp
  · have e : (nI i).toNatClampNeg = i := nI_clamp (by omega)
    have v4 : vp_in (nI i) 4 := vp_in_nI (by omega) (by decide)
    have nx : ¬ pp_tm L G E x y i = true → wX_someTermHolds_2 post x y p (nI tc) H K V B L G E n (nI (i + 1)) := by
      intro w
      refine ih (fun j hj => ?_)
      rcases Nat.lt_or_ge j i with g | g
      · exact Ii j g
      · have q : j = i := by omega
        rw [q]; exact w
    refine pk_le tc i (fun h => absurd h (by omega)) (fun _ => ⟨v4, br_c (fun z => nm_r (nI_1 i) (nx ?_)) (fun z1 => ⟨v4, br_c (fun z => nm_r (nI_1 i) (nx ?_)) (fun z2 => ⟨v4, br_c (fun z => nm_r (nI_1 i) (nx ?_)) (fun z3 => ?_)⟩)⟩)⟩)
    · rw [e] at z
      exact fun w => Int32.not_le.mpr z (pp_tm_e w).1
    · rw [e] at z
      exact fun w => Int32.not_le.mpr z (pp_tm_e w).2.1
    · rw [e] at z
      exact fun w => Int32.not_le.mpr z (pp_tm_e w).2.2
    · rw [e] at z1 z2 z3
      have w : pp_st L G E tc x y = true := pp_any_t tc hi (pp_tm_t (Int32.not_lt.mp z1) (Int32.not_lt.mp z2) (Int32.not_lt.mp z3))
      rw [w] at hp
      exact hp
theorem pp_xFit {id : Nat} (h4 : tc ≤ 4) (hid : id < 40) (hp : post (pp_i (pp_fit H K V L G E tc id))) : wpX_fulfils post (p, nI tc, H, K, V, B, L, G, E) (nI id) := by
  have e : (nI id).toNatClampNeg = id := nI_clamp (by omega)
  have v40 : vp_in (nI id) 40 := vp_in_nI hid (by decide)
  unfold wpX_fulfils
  refine ⟨v40, br_c (fun z => ?_) (fun z => ⟨v40, v40, ?_⟩)⟩
  · rw [e] at z
    rw [pp_fit_n z] at hp
    exact hp
  · rw [e] at z ⊢
    rw [pp_fit_y z] at hp
    refine pp_xSt h4 (pp_br (fun h => ?_) (fun h => ?_))
    · rw [h] at hp
      exact hp
    · rw [Bool.eq_false_iff.mpr h] at hp
      exact hp
theorem pp_xCount (h4 : tc ≤ 4) (hp : post (nI (pp_ct (pp_fit H K V L G E tc) 40))) : wpX_count post (p, nI tc, H, K, V, B, L, G, E) := by
  have key : ∃ n, ∀ a, a = nI (pp_ct (pp_fit H K V L G E tc) 0) → wX_count_4 post p (nI tc) H K V B L G E n a (nI 0) := by
    refine pp_lp (fun n j => ∀ a, a = nI (pp_ct (pp_fit H K V L G E tc) j) → wX_count_4 post p (nI tc) H K V B L G E n a (nI j)) (fun _ => True) 40 0 (by omega) trivial (fun n _ a ea => ?_) (fun n j _ hj _ ih a ea => ?_)
    · subst ea
      exact pk_le 40 40 (fun _ => hp) (fun h => absurd h (by decide))
    · subst ea
      refine pk_le 40 j (fun h => absurd h (by omega)) (fun _ => pp_xFit h4 hj (pp_br (fun h => nm_e (nm_r (nI_1 j) (ih trivial _ ?_))) (fun h => nm_r (nI_1 j) (ih trivial _ ?_))))
      · rw [pp_ct_y h, nI_1]
      · rw [pp_ct_n h]
  obtain ⟨n, h⟩ := key
  unfold wpX_count
  exact ⟨n, h _ rfl⟩
theorem pp_xSum (h4 : tc ≤ 4) (hp : post (pp_su (pp_fit H K V L G E tc) V 40)) : wpX_sum post (p, nI tc, H, K, V, B, L, G, E) := by
  have key : ∃ n, ∀ a, a = pp_su (pp_fit H K V L G E tc) V 0 → wX_sum_4 post p (nI tc) H K V B L G E n a (nI 0) := by
    refine pp_lp (fun n j => ∀ a, a = pp_su (pp_fit H K V L G E tc) V j → wX_sum_4 post p (nI tc) H K V B L G E n a (nI j)) (fun _ => True) 40 0 (by omega) trivial (fun n _ a ea => ?_) (fun n j _ hj _ ih a ea => ?_)
    · subst ea
      exact pk_le 40 40 (fun _ => hp) (fun h => absurd h (by decide))
    · subst ea
      refine pk_le 40 j (fun h => absurd h (by omega)) (fun _ => pp_xFit h4 hj (pp_br (fun h => ⟨vp_in_nI hj (by decide), nm_e (nm_r (nI_1 j) (ih trivial _ ?_))⟩) (fun h => nm_r (nI_1 j) (ih trivial _ ?_))))
      · rw [pp_su_y h, nI_clamp (by omega)]
      · rw [pp_su_n h]
  obtain ⟨n, h⟩ := key
  unfold wpX_sum
  exact ⟨n, h _ rfl⟩
theorem pp_xCb {o id : Nat} (ho : o < 40) (hid : id < 40) (hp : post (pp_i (pp_cb K id o))) : wpX_comesBefore post (p, t, H, K, V, B, L, G, E) (nI o) (nI id) := by
  have eo : (nI o).toNatClampNeg = o := nI_clamp (by omega)
  have ed : (nI id).toNatClampNeg = id := nI_clamp (by omega)
  have vo : vp_in (nI o) 40 := vp_in_nI ho (by decide)
  have vd : vp_in (nI id) 40 := vp_in_nI hid (by decide)
  unfold wpX_comesBefore
  refine ⟨vo, vd, br_c (fun z => ?_) (fun z1 => ⟨vo, vd, br_c (fun z2 => pk_le id o (fun h => ?_) (fun h => ?_)) (fun z2 => ?_)⟩)⟩
  · rw [eo, ed] at z
    rw [pp_i_t (by simp [pp_cb, z])] at hp
    exact hp
  · rw [eo, ed] at z1
    have q : ¬ o < id := by omega
    rw [pp_i_f (by simp [pp_cb, z1, q])] at hp
    exact hp
  · rw [eo, ed] at z1 z2
    rw [pp_i_t (by simp [pp_cb, z2, h])] at hp
    exact hp
  · rw [eo, ed] at z1 z2
    rw [pp_i_f (by simp [pp_cb, z1, z2])] at hp
    exact hp
/-- how many rows that fulfil come before id -/
def pp_bf (K : Nat → Int32) (F : Nat → Bool) (id : Nat) : Nat := pp_ct (fun o => pp_cb K id o && F o) 40
theorem pp_xBf {id : Nat} (h4 : tc ≤ 4) (hid : id < 40) (hp : post (nI (pp_bf K (pp_fit H K V L G E tc) id))) : wpX_fulfillingBefore post (p, nI tc, H, K, V, B, L, G, E) (nI id) := by
  have key : ∃ n, ∀ a, a = nI (pp_ct (fun o => pp_cb K id o && pp_fit H K V L G E tc o) 0) → wX_fulfillingBefore_4 post (nI id) p (nI tc) H K V B L G E n a (nI 0) := by
    refine pp_lp (fun n j => ∀ a, a = nI (pp_ct (fun o => pp_cb K id o && pp_fit H K V L G E tc o) j) → wX_fulfillingBefore_4 post (nI id) p (nI tc) H K V B L G E n a (nI j)) (fun _ => True) 40 0 (by omega) trivial (fun n _ a ea => ?_) (fun n j _ hj _ ih a ea => ?_)
    · subst ea
      exact pk_le 40 40 (fun _ => hp) (fun h => absurd h (by decide))
    · subst ea
      refine pk_le 40 j (fun h => absurd h (by omega)) (fun _ => pp_xCb hj hid (pp_br (fun h => pp_xFit h4 hj (pp_br (fun g => nm_e (nm_r (nI_1 j) (ih trivial _ ?_))) (fun g => nm_r (nI_1 j) (ih trivial _ ?_)))) (fun h => nm_r (nI_1 j) (ih trivial _ ?_))))
      · rw [pp_ct_y (P := fun o => pp_cb K id o && pp_fit H K V L G E tc o) (by simp [h, g]), nI_1]
      · rw [pp_ct_n (P := fun o => pp_cb K id o && pp_fit H K V L G E tc o) (by simp [g])]
      · rw [pp_ct_n (P := fun o => pp_cb K id o && pp_fit H K V L G E tc o) (by simp [h])]
  obtain ⟨n, h⟩ := key
  unfold wpX_fulfillingBefore
  exact ⟨n, h _ rfl⟩
theorem pp_xMatch {x : Int32} {f : Nat} (h4 : tc ≤ 4) (hf : f ≤ 40) (h1 : ∀ j, j < f → ¬ (pp_fit H K V L G E tc j = true ∧ nI (pp_bf K (pp_fit H K V L G E tc) j) = x)) (h2 : f < 40 → pp_fit H K V L G E tc f = true ∧ nI (pp_bf K (pp_fit H K V L G E tc) f) = x)
    (hp : post (if f < 40 then nI f else -3)) : wpX_match post (p, nI tc, H, K, V, B, L, G, E) x := by
  unfold wpX_match
  refine pp_lp (fun n i => wX_match_2 post x p (nI tc) H K V B L G E n (nI i)) (fun _ => True) f 0 (Nat.zero_le _) trivial (fun n _ => ?_) (fun n i _ hi _ ih => ?_)
  · refine pk_le 40 f (fun h => ?_) (fun h => ?_)
    · rw [if_neg (by omega)] at hp
      exact hp
    · rw [if_pos h] at hp
      obtain ⟨a, c⟩ := h2 h
      exact pp_xFit h4 h (pp_br (fun _ => pp_xBf h4 h (br_t c hp)) (fun w => absurd a w))
  · refine pk_le 40 i (fun h => absurd h (by omega)) (fun h => pp_xFit h4 h (pp_br (fun w => pp_xBf h4 h (br_f (fun c => h1 i hi ⟨w, c⟩) (nm_r (nI_1 i) (ih trivial)))) (fun w => nm_r (nI_1 i) (ih trivial))))
theorem pp_xPb {id : Nat} (h4 : tc ≤ 4) (hid : id < 40) (hp : post (nI (pp_ct (fun x => decide (K x = K id) && pp_fit H K V L G E tc x) id))) : wpX_fulfillingPartnersBelow post (p, nI tc, H, K, V, B, L, G, E) (nI id) := by
  have ed : (nI id).toNatClampNeg = id := nI_clamp (by omega)
  have vd : vp_in (nI id) 40 := vp_in_nI hid (by decide)
  have key : ∃ n, ∀ a, a = nI (pp_ct (fun x => decide (K x = K id) && pp_fit H K V L G E tc x) 0) → wX_fulfillingPartnersBelow_4 post (nI id) p (nI tc) H K V B L G E n a (nI 0) := by
    refine pp_lp (fun n j => ∀ a, a = nI (pp_ct (fun x => decide (K x = K id) && pp_fit H K V L G E tc x) j) → wX_fulfillingPartnersBelow_4 post (nI id) p (nI tc) H K V B L G E n a (nI j)) (fun _ => True) id 0 (by omega) trivial (fun n _ a ea => ?_) (fun n j _ hj _ ih a ea => ?_)
    · subst ea
      exact pk_le id id (fun _ => hp) (fun h => absurd h (Nat.lt_irrefl _))
    · subst ea
      have ej : (nI j).toNatClampNeg = j := nI_clamp (by omega)
      have vj : vp_in (nI j) 40 := vp_in_nI (by omega) (by decide)
      refine pk_le id j (fun h => absurd h (by omega)) (fun _ => ⟨vj, vd, br_c (fun h => pp_xFit h4 (by omega) (pp_br (fun g => nm_e (nm_r (nI_1 j) (ih trivial _ ?_))) (fun g => nm_r (nI_1 j) (ih trivial _ ?_)))) (fun h => nm_r (nI_1 j) (ih trivial _ ?_))⟩)
      · rw [ed, ej] at h
        rw [pp_ct_y (P := fun x => decide (K x = K id) && pp_fit H K V L G E tc x) (by simp [h, g]), nI_1]
      · rw [pp_ct_n (P := fun x => decide (K x = K id) && pp_fit H K V L G E tc x) (by simp [g])]
      · rw [ed, ej] at h
        rw [pp_ct_n (P := fun x => decide (K x = K id) && pp_fit H K V L G E tc x) (by simp [h])]
  obtain ⟨n, h⟩ := key
  unfold wpX_fulfillingPartnersBelow
  exact ⟨n, h _ rfl⟩
theorem pp_xPairs (h4 : tc ≤ 4) (hp : post (nI (pp_sm (fun y => if pp_fit H K V L G E tc y = true then pp_ct (fun x => decide (K x = K y) && pp_fit H K V L G E tc x) y else 0) 40))) : wpX_pairs post (p, nI tc, H, K, V, B, L, G, E) := by
  have key : ∃ n, ∀ a, a = nI (pp_sm (fun y => if pp_fit H K V L G E tc y = true then pp_ct (fun x => decide (K x = K y) && pp_fit H K V L G E tc x) y else 0) 0) → wX_pairs_4 post p (nI tc) H K V B L G E n a (nI 0) := by
    refine pp_lp (fun n j => ∀ a, a = nI (pp_sm (fun y => if pp_fit H K V L G E tc y = true then pp_ct (fun x => decide (K x = K y) && pp_fit H K V L G E tc x) y else 0) j) → wX_pairs_4 post p (nI tc) H K V B L G E n a (nI j)) (fun _ => True) 40 0 (by omega) trivial (fun n _ a ea => ?_) (fun n j _ hj _ ih a ea => ?_)
    · subst ea
      exact pk_le 40 40 (fun _ => hp) (fun h => absurd h (by decide))
    · subst ea
      refine pk_le 40 j (fun h => absurd h (by omega)) (fun _ => pp_xFit h4 hj (pp_br (fun h => pp_xPb h4 hj (nm_e (nm_r (nI_1 j) (ih trivial _ ?_)))) (fun h => nm_r (nI_1 j) (ih trivial _ ?_))))
      · rw [pp_sm, if_pos h, nI_add]
      · rw [pp_sm, if_neg h, Nat.add_zero]
  obtain ⟨n, h⟩ := key
  unfold wpX_pairs
  exact ⟨n, h _ rfl⟩
/-- partition i is touched -/
def pp_tc (H K V C L G E : Nat → Int32) (tc i : Nat) : Bool := pp_any (fun id => pp_ps H K C i id && pp_fit H K V L G E tc id) 40
theorem pp_xIst {i : Nat} (J : pp_J K B C b pc tc) (hi : i < pc) (hp : post (pp_i (pp_tc H K V C L G E tc i))) : wpX_isTouched post (nI pc, nI tc, H, K, V, B, L, G, E) (nI i) := by
  have h4 := J.2.2.1
  unfold wpX_isTouched
  refine pp_lp (fun n j => wX_isTouched_2 post (nI i) (nI pc) (nI tc) H K V B L G E n (nI j)) (fun j => ∀ o, o < j → ¬ (pp_ps H K C i o && pp_fit H K V L G E tc o) = true) 40 0 (Nat.zero_le _) (fun j hj => absurd hj (Nat.not_lt_zero _)) (fun n I0 => ?_) (fun n j _ hj Ij ih => ?_)
  · refine pk_le 40 40 (fun _ => ?_) (fun h => absurd h (by decide))
    have e : pp_tc H K V C L G E tc i = false := pp_any_f (P := fun id => pp_ps H K C i id && pp_fit H K V L G E tc id) 40 I0
    rw [e] at hp
    exact hp
  · have nx : ¬ (pp_ps H K C i j && pp_fit H K V L G E tc j) = true → wX_isTouched_2 post (nI i) (nI pc) (nI tc) H K V B L G E n (nI (j + 1)) := by
      intro w
      refine ih (fun o ho => ?_)
      rcases Nat.lt_or_ge o j with g | g
      · exact Ij o g
      · have q : o = j := by omega
        rw [q]; exact w
    refine pk_le 40 j (fun h => absurd h (by omega)) (fun _ => pp_xLies J hj hi H rfl (pp_br (fun h => pp_xFit h4 hj (pp_br (fun g => ?_) (fun g => nm_r (nI_1 j) (nx ?_)))) (fun h => nm_r (nI_1 j) (nx ?_))))
    · have e : pp_tc H K V C L G E tc i = true := pp_any_t (P := fun id => pp_ps H K C i id && pp_fit H K V L G E tc id) 40 hj (by simp [h, g])
      rw [e] at hp
      exact hp
    · simp [g]
    · simp [h]
theorem pp_xTou (J : pp_J K B C b pc tc) (hp : post (nI (pp_ct (pp_tc H K V C L G E tc) pc))) : wpX_touched post (nI pc, nI tc, H, K, V, B, L, G, E) := by
  have h8 := J.1.2.1
  have key : ∃ n, ∀ a, a = nI (pp_ct (pp_tc H K V C L G E tc) 0) → wX_touched_4 post (nI pc) (nI tc) H K V B L G E n a (nI 0) := by
    refine pp_lp (fun n j => ∀ a, a = nI (pp_ct (pp_tc H K V C L G E tc) j) → wX_touched_4 post (nI pc) (nI tc) H K V B L G E n a (nI j)) (fun _ => True) pc 0 (by omega) trivial (fun n _ a ea => ?_) (fun n j _ hj _ ih a ea => ?_)
    · subst ea
      exact pk_le pc pc (fun _ => hp) (fun h => absurd h (Nat.lt_irrefl _))
    · subst ea
      refine pk_le pc j (fun h => absurd h (by omega)) (fun _ => pp_xIst J hj (pp_br (fun h => nm_e (nm_r (nI_1 j) (ih trivial _ ?_))) (fun h => nm_r (nI_1 j) (ih trivial _ ?_))))
      · rw [pp_ct_y h, nI_1]
      · rw [pp_ct_n h]
  obtain ⟨n, h⟩ := key
  unfold wpX_touched
  exact ⟨n, h _ rfl⟩
end
