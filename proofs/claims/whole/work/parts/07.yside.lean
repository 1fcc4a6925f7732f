theorem pp_m1p (x : Int32) : x + (-1) + 1 = x := by
  rw [Int32.add_assoc, show (-1 : Int32) + 1 = 0 from rfl, Int32.add_zero]
section
variable {t : Int32} {H K V L G E C : Nat → Int32} {b : Nat → Nat} {pc tc : Nat} {post : Int32 → Prop}
theorem pp_yKey_t {q : Nat} (hq : q < 256) (hp : post 0) : wpY_badKey post (t, H, K, V, C, L, G, E) (nI q) := by
  unfold wpY_badKey
  exact br_f (nI_pos (by omega)) (pk_le q 255 (fun _ => hp) (fun h => absurd h (by omega)))
theorem pp_yKey_f {x : Int32} (h : ¬ ∃ q, q < 256 ∧ x = nI q) (hp : post 1) : wpY_badKey post (t, H, K, V, C, L, G, E) x := by
  unfold wpY_badKey
  rcases pp_cls x 256 with a | ⟨j, hj, h31, rfl⟩ | ⟨j, hj, h31, rfl⟩
  · exact br_t a hp
  · exact br_f (nI_pos h31) (pk_le j 255 (fun h => absurd h (by omega)) (fun _ => hp))
  · exact absurd ⟨j, hj, rfl⟩ h
theorem pp_yRow_t {j : Nat} (hj : j < 40) (h : ¬ H j = 0) (hp : post 0) : wpY_none post (t, H, K, V, C, L, G, E) (nI j) := by
  have e : (nI j).toNatClampNeg = j := nI_clamp (by omega)
  unfold wpY_none
  exact br_f (nI_pos (by omega)) (pk_lt 39 j (fun h => absurd h (by omega)) (fun _ => ⟨vp_in_nI hj (by decide), br_f (by rw [e]; exact h) hp⟩))
theorem pp_yRow_f {x : Int32} (h : ¬ ∃ j, j < 40 ∧ x = nI j ∧ ¬ H j = 0) (hp : post 1) : wpY_none post (t, H, K, V, C, L, G, E) x := by
  unfold wpY_none
  rcases pp_cls x 40 with a | ⟨j, hj, h31, rfl⟩ | ⟨j, hj, h31, rfl⟩
  · exact br_t a hp
  · exact br_f (nI_pos h31) (pk_lt 39 j (fun _ => hp) (fun h => absurd h (by omega)))
  · have e : (nI j).toNatClampNeg = j := nI_clamp h31
    have z : H j = 0 := by
      by_cases z : H j = 0
      · exact z
      · exact absurd ⟨j, hj, rfl, z⟩ h
    exact br_f (nI_pos h31) (pk_lt 39 j (fun h => absurd h (by omega)) (fun _ => ⟨vp_in_nI hj (by decide), br_t (by rw [e]; exact z) hp⟩))
theorem pp_yPart {q : Nat} (hB : pp_Bd b pc C) (hq : q ≤ 255) (hp : post (nI (pp_pt C q))) : wpY_part post (t, H, K, V, C, L, G, E) (nI q) := by
  have key : ∃ n, ∀ a, a = nI (pp_cn C 0) + (-1) → wY_part_4 post (nI q) t H K V C L G E n a (nI 0) := by
    refine pp_lp (fun n i => ∀ a, a = nI (pp_cn C i) + (-1) → wY_part_4 post (nI q) t H K V C L G E n a (nI i)) (fun _ => True) (q + 1) 0 (by omega) trivial (fun n _ a ea => ?_) (fun n i _ hi _ ih a ea => ?_)
    · refine pk_lt q (q + 1) (fun _ => ?_) (fun h => absurd h (by omega))
      rw [ea, (pp_pt_s hB hq).1, pk_m1]
      exact hp
    · have e : (nI i).toNatClampNeg = i := nI_clamp (by omega)
      subst ea
      refine pk_lt q i (fun h => absurd h (by omega)) (fun h => ⟨vp_in_nI (by omega) (by decide), br_c (fun z => nm_r (nI_1 i) (ih trivial _ ?_)) (fun z => nm_e (nm_r (nI_1 i) (ih trivial _ ?_)))⟩)
      · rw [e] at z
        rw [pp_cn_z z]
      · rw [e] at z
        rw [pp_cn_n z, pk_m1, pp_m1p]
  obtain ⟨n, h⟩ := key
  unfold wpY_part
  exact ⟨n, h _ (show (-1 : Int32) = nI 0 + (-1) from by decide)⟩
theorem pp_yParts (hB : pp_Bd b pc C) (hp : post (nI pc)) : wpY_partitions post (t, H, K, V, C, L, G, E) := by
  have e : pp_pt C 255 + 1 = pc := (pp_pt_s hB (Nat.le_refl 255)).1.symm.trans (pp_cn_256 hB)
  unfold wpY_partitions
  refine pp_yPart (q := 255) hB (Nat.le_refl _) ?_
  show post (nI (pp_pt C 255) + 1)
  rw [nI_1, e]
  exact hp
theorem pp_yBound_t {i : Nat} (hB : pp_Bd b pc C) (hi : i < pc) (hp : post (nI (b i))) : wpY_bound post (t, H, K, V, C, L, G, E) (nI i) := by
  have h5 := hB.2.2.2.2.1 i hi
  have h8 := hB.2.1
  have key : ∃ n, ∀ a, a = nI (pp_cn C 0) → wY_bound_4 post (nI i) t H K V C L G E n a (nI 0) := by
    refine pp_lp (fun n k => ∀ a, a = nI (pp_cn C k) → wY_bound_4 post (nI i) t H K V C L G E n a (nI k)) (fun _ => True) (b i) 0 (by omega) trivial (fun n _ a ea => ?_) (fun n k _ hk _ ih a ea => ?_)
    · have e : (nI (b i)).toNatClampNeg = b i := nI_clamp (by omega)
      refine pk_le 256 (b i) (fun h => absurd h (by omega)) (fun _ => ⟨vp_in_nI (by omega) (by decide), br_f (by rw [e]; exact pp_C_b hB hi) (br_t ?_ hp)⟩)
      rw [ea, pp_cn_b hB hi]
    · have e : (nI k).toNatClampNeg = k := nI_clamp (by omega)
      subst ea
      refine pk_le 256 k (fun h => absurd h (by omega)) (fun _ => ⟨vp_in_nI (by omega) (by decide), br_c (fun z => nm_r (nI_1 k) (ih trivial _ ?_)) (fun z => br_f ?_ (nm_e (nm_r (nI_1 k) (ih trivial _ ?_))))⟩)
      · rw [e] at z
        rw [pp_cn_z z]
      · rw [e] at z
        have g := pp_cn_k hB (by omega) z
        rw [nI_eq (by omega) (by omega)]
        intro w
        rw [w] at g
        omega
      · rw [e] at z
        rw [pp_cn_n z, nI_1]
  obtain ⟨n, h⟩ := key
  unfold wpY_bound
  exact ⟨n, h _ rfl⟩
theorem pp_yBound_f {x : Int32} (hB : pp_Bd b pc C) (hn : ¬ ∃ i, i < pc ∧ x = nI i) (hp : post (-5)) : wpY_bound post (t, H, K, V, C, L, G, E) x := by
  have key : ∃ n, ∀ a, a = nI (pp_cn C 0) → wY_bound_4 post x t H K V C L G E n a (nI 0) := by
    refine pp_lp (fun n k => ∀ a, a = nI (pp_cn C k) → wY_bound_4 post x t H K V C L G E n a (nI k)) (fun _ => True) 256 0 (by omega) trivial (fun n _ a ea => ?_) (fun n k _ hk _ ih a ea => ?_)
    · exact pk_le 256 256 (fun _ => hp) (fun h => absurd h (Nat.lt_irrefl _))
    · have e : (nI k).toNatClampNeg = k := nI_clamp (by omega)
      subst ea
      refine pk_le 256 k (fun h => absurd h (by omega)) (fun _ => ⟨vp_in_nI (by omega) (by decide), br_c (fun z => nm_r (nI_1 k) (ih trivial _ ?_)) (fun z => br_f ?_ (nm_e (nm_r (nI_1 k) (ih trivial _ ?_))))⟩)
      · rw [e] at z
        rw [pp_cn_z z]
      · rw [e] at z
        exact fun w => hn ⟨_, (pp_cn_k hB (by omega) z).1, w.symm⟩
      · rw [e] at z
        rw [pp_cn_n z, nI_1]
  obtain ⟨n, h⟩ := key
  unfold wpY_bound
  exact ⟨n, h _ rfl⟩
theorem pp_yRi_t {i : Nat} (hB : pp_Bd b pc C) (hK : pp_KR K) (hi : i < pc) (hp : post (nI (pp_ct (pp_ps H K C i) 40))) : wpY_rowsIn post (t, H, K, V, C, L, G, E) (nI i) := by
  have h8 := hB.2.1
  have key : ∃ n, ∀ a, a = nI (pp_ct (pp_ps H K C i) 0) → wY_rowsIn_19 post (nI i) t H K V C L G E n a (nI 0) := by
    refine pp_lp (fun n j => ∀ a, a = nI (pp_ct (pp_ps H K C i) j) → wY_rowsIn_19 post (nI i) t H K V C L G E n a (nI j)) (fun _ => True) 40 0 (by omega) trivial (fun n _ a ea => ?_) (fun n j _ hj _ ih a ea => ?_)
    · subst ea
      exact pk_le 40 40 (fun _ => hp) (fun h => absurd h (by decide))
    · have e : (nI j).toNatClampNeg = j := nI_clamp (by omega)
      have vj : vp_in (nI j) 40 := vp_in_nI hj (by decide)
      obtain ⟨q, hq, eq⟩ := hK j hj
      have e2 : K (nI j).toNatClampNeg = nI q := by rw [e, eq]
      have lt := (pp_pt_s hB hq).2.1
      subst ea
      refine pk_le 40 j (fun h => absurd h (by omega)) (fun _ => ⟨vj, br_c (fun z => nm_r (nI_1 j) (ih trivial _ ?_)) (fun z => ⟨vj, ?_⟩)⟩)
      · rw [e] at z
        rw [pp_ct_n (by rw [pp_ps_n z]; decide)]
      · rw [e] at z
        have e3 : pp_ps H K C i j = decide (pp_pt C q = i) := by rw [pp_ps_y z, eq, nI_clamp (by omega)]
        rw [e2]
        refine pp_yPart hB hq (pk_eq (pp_pt C q) i (fun h => nm_e (nm_r (nI_1 j) (ih trivial _ ?_))) (fun h => nm_r (nI_1 j) (ih trivial _ ?_)))
        · rw [pp_ct_y (by rw [e3]; exact decide_eq_true h), nI_1]
        · rw [pp_ct_n (by rw [e3]; exact fun w => h (of_decide_eq_true w))]
  obtain ⟨n, h⟩ := key
  unfold wpY_rowsIn
  exact br_f (nI_pos (by omega)) (pp_yParts hB (pk_lt i pc (fun _ => ⟨n, h _ rfl⟩) (fun h => absurd h (by omega))))
theorem pp_yRi_f {x : Int32} (hB : pp_Bd b pc C) (hn : ¬ ∃ i, i < pc ∧ x = nI i) (hp : post (-5)) : wpY_rowsIn post (t, H, K, V, C, L, G, E) x := by
  have h8 := hB.2.1
  unfold wpY_rowsIn
  rcases pp_cls x pc with a | ⟨j, hj, h31, rfl⟩ | ⟨j, hj, h31, rfl⟩
  · exact br_t a hp
  · exact br_f (nI_pos h31) (pp_yParts hB (pk_lt j pc (fun h => absurd h (by omega)) (fun _ => hp)))
  · exact absurd ⟨j, hj, rfl⟩ hn
theorem pp_yFit {id : Nat} (h4 : tc ≤ 4) (hid : id < 40) (hp : post (pp_i (pp_fit H K V L G E tc id))) : wpY_fits post (nI tc, H, K, V, C, L, G, E) (nI id) := by
  have ed : (nI id).toNatClampNeg = id := nI_clamp (by omega)
  have vd : vp_in (nI id) 40 := vp_in_nI hid (by decide)
  unfold wpY_fits
  refine pp_lp (fun n i => wY_fits_2 post (nI id) (nI tc) H K V C L G E n (nI i)) (fun i => H id = 0 ∨ ∀ j, j < i → ¬ pp_tm L G E (K id) (V id) j = true) tc 0 (Nat.zero_le _) (Or.inr (fun j hj => absurd hj (Nat.not_lt_zero _))) (fun n I0 => ?_) (fun n i _ hi Ii ih => ?_)
  · refine pk_le tc tc (fun _ => ?_) (fun h => absurd h (Nat.lt_irrefl _))
    by_cases z : H id = 0
    · rw [pp_fit_n z] at hp
      exact hp
    · have I1 : ∀ j, j < tc → ¬ pp_tm L G E (K id) (V id) j = true := I0.resolve_left z
      have e : pp_st L G E tc (K id) (V id) = false := pp_any_f tc I1
      rw [pp_fit_y z, e] at hp
      exact hp
  · have e : (nI i).toNatClampNeg = i := nI_clamp (by omega)
    have v4 : vp_in (nI i) 4 := vp_in_nI (by omega) (by decide)
    refine pk_le tc i (fun h => absurd h (by omega)) (fun _ => ⟨vd, br_c (fun z => nm_r (nI_1 i) (ih (Or.inl ?_))) (fun z0 => ?_)⟩)
    · rw [ed] at z
      exact z
    · rw [ed] at z0
      have nx : ¬ pp_tm L G E (K id) (V id) i = true → wY_fits_2 post (nI id) (nI tc) H K V C L G E n (nI (i + 1)) := by
        intro w
        refine ih (Or.inr (fun j hj => ?_))
        rcases Nat.lt_or_ge j i with g | g
        · exact Ii.resolve_left z0 j g
        · have q : j = i := by omega
          rw [q]; exact w
      refine ⟨v4, vd, br_c (fun z => nm_r (nI_1 i) (nx ?_)) (fun z1 => ⟨vd, v4, br_c (fun z => nm_r (nI_1 i) (nx ?_)) (fun z2 => ⟨vd, v4, br_c (fun z => nm_r (nI_1 i) (nx ?_)) (fun z3 => ?_)⟩)⟩)⟩
      · rw [e, ed] at z
        exact fun w => Int32.not_le.mpr z (pp_tm_e w).1
      · rw [e, ed] at z
        exact fun w => Int32.not_le.mpr z (pp_tm_e w).2.1
      · rw [e, ed] at z
        exact fun w => Int32.not_le.mpr z (pp_tm_e w).2.2
      · rw [e, ed] at z1 z2 z3
        have w : pp_st L G E tc (K id) (V id) = true := pp_any_t tc hi (pp_tm_t (Int32.not_lt.mp z1) (Int32.not_lt.mp z2) (Int32.not_lt.mp z3))
        rw [pp_fit_y z0, w] at hp
        exact hp
theorem pp_yCount (h4 : tc ≤ 4) (hp : post (nI (pp_ct (pp_fit H K V L G E tc) 40))) : wpY_count post (nI tc, H, K, V, C, L, G, E) := by
  have key : ∃ n, ∀ a, a = nI (pp_ct (pp_fit H K V L G E tc) 0) → wY_count_4 post (nI tc) H K V C L G E n a (nI 0) := by
    refine pp_lp (fun n j => ∀ a, a = nI (pp_ct (pp_fit H K V L G E tc) j) → wY_count_4 post (nI tc) H K V C L G E n a (nI j)) (fun _ => True) 40 0 (by omega) trivial (fun n _ a ea => ?_) (fun n j _ hj _ ih a ea => ?_)
    · subst ea
      exact pk_le 40 40 (fun _ => hp) (fun h => absurd h (by decide))
    · subst ea
      refine pk_le 40 j (fun h => absurd h (by omega)) (fun _ => pp_yFit h4 hj (pp_br (fun h => nm_e (nm_r (nI_1 j) (ih trivial _ ?_))) (fun h => nm_r (nI_1 j) (ih trivial _ ?_))))
      · rw [pp_ct_y h, nI_1]
      · rw [pp_ct_n h]
  obtain ⟨n, h⟩ := key
  unfold wpY_count
  exact ⟨n, h _ rfl⟩
theorem pp_ySum (h4 : tc ≤ 4) (hp : post (pp_su (pp_fit H K V L G E tc) V 40)) : wpY_sum post (nI tc, H, K, V, C, L, G, E) := by
  have key : ∃ n, ∀ a, a = pp_su (pp_fit H K V L G E tc) V 0 → wY_sum_4 post (nI tc) H K V C L G E n a (nI 0) := by
    refine pp_lp (fun n j => ∀ a, a = pp_su (pp_fit H K V L G E tc) V j → wY_sum_4 post (nI tc) H K V C L G E n a (nI j)) (fun _ => True) 40 0 (by omega) trivial (fun n _ a ea => ?_) (fun n j _ hj _ ih a ea => ?_)
    · subst ea
      exact pk_le 40 40 (fun _ => hp) (fun h => absurd h (by decide))
    · subst ea
      refine pk_le 40 j (fun h => absurd h (by omega)) (fun _ => pp_yFit h4 hj (pp_br (fun h => ⟨vp_in_nI hj (by decide), nm_e (nm_r (nI_1 j) (ih trivial _ ?_))⟩) (fun h => nm_r (nI_1 j) (ih trivial _ ?_))))
      · rw [pp_su_y h, nI_clamp (by omega)]
      · rw [pp_su_n h]
  obtain ⟨n, h⟩ := key
  unfold wpY_sum
  exact ⟨n, h _ rfl⟩
theorem pp_yPl {id : Nat} (h4 : tc ≤ 4) (hid : id < 40) (hp : post (nI (pp_bf K (pp_fit H K V L G E tc) id))) : wpY_place post (nI tc, H, K, V, C, L, G, E) (nI id) := by
  have ed : (nI id).toNatClampNeg = id := nI_clamp (by omega)
  have vd : vp_in (nI id) 40 := vp_in_nI hid (by decide)
  have key : ∃ n, ∀ a, a = nI (pp_ct (fun o => pp_cb K id o && pp_fit H K V L G E tc o) 0) → wY_place_4 post (nI id) (nI tc) H K V C L G E n a (nI 0) := by
    refine pp_lp (fun n j => ∀ a, a = nI (pp_ct (fun o => pp_cb K id o && pp_fit H K V L G E tc o) j) → wY_place_4 post (nI id) (nI tc) H K V C L G E n a (nI j)) (fun _ => True) 40 0 (by omega) trivial (fun n _ a ea => ?_) (fun n j _ hj _ ih a ea => ?_)
    · subst ea
      exact pk_le 40 40 (fun _ => hp) (fun h => absurd h (by decide))
    · have ej : (nI j).toNatClampNeg = j := nI_clamp (by omega)
      have vj : vp_in (nI j) 40 := vp_in_nI hj (by decide)
      have ny : ∀ a, pp_cb K id j = true → pp_fit H K V L G E tc j = true → a = nI (pp_ct (fun o => pp_cb K id o && pp_fit H K V L G E tc o) j) → wY_place_4 post (nI id) (nI tc) H K V C L G E n (a + 1) (nI (j + 1)) := by
        intro a c g ea
        refine ih trivial _ ?_
        rw [ea, pp_ct_y (P := fun o => pp_cb K id o && pp_fit H K V L G E tc o) (by simp [c, g]), nI_1]
      have nn : ∀ a, ¬ (pp_cb K id j && pp_fit H K V L G E tc j) = true → a = nI (pp_ct (fun o => pp_cb K id o && pp_fit H K V L G E tc o) j) → wY_place_4 post (nI id) (nI tc) H K V C L G E n a (nI (j + 1)) := by
        intro a c ea
        refine ih trivial _ ?_
        rw [ea, pp_ct_n (P := fun o => pp_cb K id o && pp_fit H K V L G E tc o) c]
      refine pk_le 40 j (fun h => absurd h (by omega)) (fun _ => pp_yFit h4 hj (pp_br (fun g => ⟨vj, vd, br_c (fun z => nm_e (nm_r (nI_1 j) (ny a ?_ g ea))) (fun z1 => ⟨vj, vd, br_c (fun z2 => pk_le id j (fun h => nm_r (nI_1 j) (nn a ?_ ea)) (fun h => nm_e (nm_r (nI_1 j) (ny a ?_ g ea)))) (fun z2 => nm_r (nI_1 j) (nn a ?_ ea))⟩)⟩) (fun g => nm_r (nI_1 j) (nn a (by simp [g]) ea))))
      · rw [ej, ed] at z
        simp [pp_cb, z]
      · rw [ej, ed] at z1
        have q : ¬ j < id := by omega
        simp [pp_cb, z1, q]
      · rw [ej, ed] at z2
        simp [pp_cb, z2, h]
      · rw [ej, ed] at z1 z2
        simp [pp_cb, z1, z2]
  obtain ⟨n, h⟩ := key
  unfold wpY_place
  exact ⟨n, h _ rfl⟩
theorem pp_yMatch {x : Int32} {f : Nat} (h4 : tc ≤ 4) (hf : f ≤ 40) (h1 : ∀ j, j < f → ¬ (pp_fit H K V L G E tc j = true ∧ nI (pp_bf K (pp_fit H K V L G E tc) j) = x)) (h2 : f < 40 → pp_fit H K V L G E tc f = true ∧ nI (pp_bf K (pp_fit H K V L G E tc) f) = x)
    (hp : post (if f < 40 then nI f else -3)) : wpY_match post (nI tc, H, K, V, C, L, G, E) x := by
  unfold wpY_match
  refine pp_lp (fun n i => wY_match_2 post x (nI tc) H K V C L G E n (nI i)) (fun _ => True) f 0 (Nat.zero_le _) trivial (fun n _ => ?_) (fun n i _ hi _ ih => ?_)
  · refine pk_le 40 f (fun h => ?_) (fun h => ?_)
    · rw [if_neg (by omega)] at hp
      exact hp
    · rw [if_pos h] at hp
      obtain ⟨a, c⟩ := h2 h
      exact pp_yFit h4 h (pp_br (fun _ => pp_yPl h4 h (br_t c hp)) (fun w => absurd a w))
  · refine pk_le 40 i (fun h => absurd h (by omega)) (fun h => pp_yFit h4 h (pp_br (fun w => pp_yPl h4 h (br_f (fun c => h1 i hi ⟨w, c⟩) (nm_r (nI_1 i) (ih trivial)))) (fun w => nm_r (nI_1 i) (ih trivial))))
end
