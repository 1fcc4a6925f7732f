section
variable {t : Int32} {H K V L G E C : Nat → Int32} {b : Nat → Nat} {pc tc : Nat} {post : Int32 → Prop}
theorem pp_yPin {J4 : Int32 → Int32 → Prop} {x : Nat} (h4 : tc ≤ 4) (hx : x < 40) (s : Nat)
    (hJ : J4 (nI (s + pp_ct (fun y => decide (x < y) && (decide (K x = K y) && (pp_fit H K V L G E tc x && pp_fit H K V L G E tc y))) 40)) (nI (x + 1))) :
    ∃ n, wY_pairs_14 post J4 (nI x) (nI tc) H K V C L G E n (nI s) (nI (x + 1)) := by
  have ex : (nI x).toNatClampNeg = x := nI_clamp (by omega)
  have vx : vp_in (nI x) 40 := vp_in_nI hx (by decide)
  have key : ∃ n, ∀ a, a = nI (s + pp_ct (fun y => decide (x < y) && (decide (K x = K y) && (pp_fit H K V L G E tc x && pp_fit H K V L G E tc y))) (x + 1)) → wY_pairs_14 post J4 (nI x) (nI tc) H K V C L G E n a (nI (x + 1)) := by
    refine pp_lp (fun n y => ∀ a, a = nI (s + pp_ct (fun y => decide (x < y) && (decide (K x = K y) && (pp_fit H K V L G E tc x && pp_fit H K V L G E tc y))) y) → wY_pairs_14 post J4 (nI x) (nI tc) H K V C L G E n a (nI y)) (fun _ => True) 40 (x + 1) (by omega) trivial (fun n _ a ea => ?_) (fun n y hxy hy _ ih a ea => ?_)
    · subst ea
      exact pk_le 40 40 (fun _ => nm_r (nI_1 x) hJ) (fun h => absurd h (by decide))
    · have ey : (nI y).toNatClampNeg = y := nI_clamp (by omega)
      have vy : vp_in (nI y) 40 := vp_in_nI hy (by decide)
      have xy : x < y := by omega
      have nn : ¬ (decide (x < y) && (decide (K x = K y) && (pp_fit H K V L G E tc x && pp_fit H K V L G E tc y))) = true → wY_pairs_14 post J4 (nI x) (nI tc) H K V C L G E n a (nI (y + 1)) := by
        intro c
        refine ih trivial _ ?_
        rw [ea, pp_ct_n (P := fun y => decide (x < y) && (decide (K x = K y) && (pp_fit H K V L G E tc x && pp_fit H K V L G E tc y))) c]
      have ny : (decide (x < y) && (decide (K x = K y) && (pp_fit H K V L G E tc x && pp_fit H K V L G E tc y))) = true → wY_pairs_14 post J4 (nI x) (nI tc) H K V C L G E n (a + 1) (nI (y + 1)) := by
        intro c
        refine ih trivial _ ?_
        rw [ea, pp_ct_y (P := fun y => decide (x < y) && (decide (K x = K y) && (pp_fit H K V L G E tc x && pp_fit H K V L G E tc y))) c, nI_1, Nat.add_assoc]
      refine pk_le 40 y (fun h => absurd h (by omega)) (fun _ => ⟨vx, vy, br_c (fun z => pp_yFit h4 hx (pp_br (fun f1 => pp_yFit h4 hy (pp_br (fun f2 => nm_e (nm_r (nI_1 y) (ny ?_))) (fun f2 => nm_r (nI_1 y) (nn ?_)))) (fun f1 => nm_r (nI_1 y) (nn ?_)))) (fun z => nm_r (nI_1 y) (nn ?_))⟩)
      · rw [ex, ey] at z
        simp [xy, z, f1, f2]
      · simp [f2]
      · simp [f1]
      · rw [ex, ey] at z
        simp [z]
  obtain ⟨n, h⟩ := key
  refine ⟨n, h _ ?_⟩
  rw [pp_ct_0 (x + 1) (fun j hj => ?_), Nat.add_zero]
  have q : ¬ x < j := by omega
  simp [q]
theorem pp_yPairs (h4 : tc ≤ 4) (hp : post (nI (pp_sm (fun x => pp_ct (fun y => decide (x < y) && (decide (K x = K y) && (pp_fit H K V L G E tc x && pp_fit H K V L G E tc y))) 40) 40))) : wpY_pairs post (nI tc, H, K, V, C, L, G, E) := by
  have key : ∃ n, ∀ a, a = nI (pp_sm (fun x => pp_ct (fun y => decide (x < y) && (decide (K x = K y) && (pp_fit H K V L G E tc x && pp_fit H K V L G E tc y))) 40) 0) → wY_pairs_4 post (nI tc) H K V C L G E n a (nI 0) := by
    refine pp_lp (fun n x => ∀ a, a = nI (pp_sm (fun x => pp_ct (fun y => decide (x < y) && (decide (K x = K y) && (pp_fit H K V L G E tc x && pp_fit H K V L G E tc y))) 40) x) → wY_pairs_4 post (nI tc) H K V C L G E n a (nI x)) (fun _ => True) 40 0 (by omega) trivial (fun n _ a ea => ?_) (fun n x _ hx _ ih a ea => ?_)
    · subst ea
      exact pk_le 40 40 (fun _ => hp) (fun h => absurd h (by decide))
    · subst ea
      refine pk_le 40 x (fun h => absurd h (by omega)) (fun _ => nm_r (nI_1 x) (pp_yPin h4 hx _ (ih trivial _ ?_)))
      rw [pp_sm]
  obtain ⟨n, h⟩ := key
  unfold wpY_pairs
  exact ⟨n, h _ rfl⟩
theorem pp_yTin {J4 : Int32 → Int32 → Prop} {i : Nat} {a : Int32} (hB : pp_Bd b pc C) (hK : pp_KR K) (h4 : tc ≤ 4) (hi : i < 8) (ht : pp_tc H K V C L G E tc i = true → J4 (a + 1) (nI (i + 1))) (hf : ¬ pp_tc H K V C L G E tc i = true → J4 a (nI (i + 1))) :
    ∃ n, wY_touched_15 post J4 a (nI i) (nI tc) H K V C L G E n 0 0 := by
  have key : ∃ n, ∀ z, z = pp_i (pp_any (fun id => pp_ps H K C i id && pp_fit H K V L G E tc id) 0) → wY_touched_15 post J4 a (nI i) (nI tc) H K V C L G E n z (nI 0) := by
    refine pp_lp (fun n j => ∀ z, z = pp_i (pp_any (fun id => pp_ps H K C i id && pp_fit H K V L G E tc id) j) → wY_touched_15 post J4 a (nI i) (nI tc) H K V C L G E n z (nI j)) (fun _ => True) 40 0 (by omega) trivial (fun n _ z ez => ?_) (fun n j _ hj _ ih z ez => ?_)
    · subst ez
      exact pk_le 40 40 (fun _ => pp_br (fun w => nm_e (nm_r (nI_1 i) (ht w))) (fun w => nm_r (nI_1 i) (hf w))) (fun h => absurd h (by decide))
    · have ej : (nI j).toNatClampNeg = j := nI_clamp (by omega)
      have vj : vp_in (nI j) 40 := vp_in_nI hj (by decide)
      obtain ⟨q, hq, eq⟩ := hK j hj
      have e2 : K (nI j).toNatClampNeg = nI q := by rw [ej, eq]
      have lt := (pp_pt_s hB hq).2.1
      have h8 := hB.2.1
      have nn : ¬ (pp_ps H K C i j && pp_fit H K V L G E tc j) = true → wY_touched_15 post J4 a (nI i) (nI tc) H K V C L G E n z (nI (j + 1)) := by
        intro c
        refine ih trivial _ ?_
        rw [ez, pp_any_n (P := fun id => pp_ps H K C i id && pp_fit H K V L G E tc id) c]
      refine pk_le 40 j (fun h => absurd h (by omega)) (fun _ => pp_yFit h4 hj (pp_br (fun g => ⟨vj, ?_⟩) (fun g => nm_r (nI_1 j) (nn (by simp [g])))))
      have e3 : pp_ps H K C i j = decide (pp_pt C q = i) := by rw [pp_ps_y (pp_fit_h g), eq, nI_clamp (by omega)]
      rw [e2]
      refine pp_yPart hB hq (pk_eq (pp_pt C q) i (fun h => nm_r (nI_1 j) (ih trivial _ ?_)) (fun h => nm_r (nI_1 j) (nn ?_)))
      · rw [pp_any_y (P := fun id => pp_ps H K C i id && pp_fit H K V L G E tc id) (by simp [e3, g, h])]
        rfl
      · simp [e3, h]
  obtain ⟨n, h⟩ := key
  exact ⟨n, h _ rfl⟩
theorem pp_yTou (hB : pp_Bd b pc C) (hK : pp_KR K) (h4 : tc ≤ 4) (hp : post (nI (pp_ct (pp_tc H K V C L G E tc) 8))) : wpY_touched post (nI tc, H, K, V, C, L, G, E) := by
  have key : ∃ n, ∀ a, a = nI (pp_ct (pp_tc H K V C L G E tc) 0) → wY_touched_4 post (nI tc) H K V C L G E n a (nI 0) := by
    refine pp_lp (fun n j => ∀ a, a = nI (pp_ct (pp_tc H K V C L G E tc) j) → wY_touched_4 post (nI tc) H K V C L G E n a (nI j)) (fun _ => True) 8 0 (by omega) trivial (fun n _ a ea => ?_) (fun n j _ hj _ ih a ea => ?_)
    · subst ea
      exact pk_le 8 8 (fun _ => hp) (fun h => absurd h (by decide))
    · subst ea
      refine pk_le 8 j (fun h => absurd h (by omega)) (fun _ => pp_yTin hB hK h4 hj (fun h => ih trivial _ ?_) (fun h => ih trivial _ ?_))
      · rw [pp_ct_y h, nI_1]
      · rw [pp_ct_n h]
  obtain ⟨n, h⟩ := key
  unfold wpY_touched
  exact ⟨n, h _ rfl⟩
theorem pp_tou8 (hB : pp_Bd b pc C) (hK : pp_KR K) : pp_ct (pp_tc H K V C L G E tc) 8 = pp_ct (pp_tc H K V C L G E tc) pc := by
  have h8 := hB.2.1
  have e : 8 = pc + (8 - pc) := by omega
  rw [e]
  refine pp_ct_up (8 - pc) (fun i hi => ?_)
  refine pp_any_f (P := fun id => pp_ps H K C i id && pp_fit H K V L G E tc id) 40 (fun j hj w => ?_)
  have w2 : (pp_ps H K C i j && pp_fit H K V L G E tc j) = true := w
  rw [Bool.and_eq_true] at w2
  obtain ⟨q, hq, eq⟩ := hK j hj
  have lt := (pp_pt_s hB hq).2.1
  have g := (pp_ps_h w2.1).2
  rw [eq, nI_clamp (by omega)] at g
  omega
end
