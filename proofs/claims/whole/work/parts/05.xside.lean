theorem pp_cls (x : Int32) (n : Nat) : x < 0 ∨ (∃ j, n ≤ j ∧ j < 2 ^ 31 ∧ x = nI j) ∨ (∃ j, j < n ∧ j < 2 ^ 31 ∧ x = nI j) := by
  by_cases h : x < 0
  · exact Or.inl h
  · obtain ⟨j, hj, rfl⟩ := nI_of h
    rcases Nat.lt_or_ge j n with g | g
    · exact Or.inr (Or.inr ⟨j, g, hj, rfl⟩)
    · exact Or.inr (Or.inl ⟨j, g, hj, rfl⟩)
theorem pp_first (Q : Nat → Prop) : ∀ m, ∃ f, f ≤ m ∧ (∀ j, j < f → ¬ Q j) ∧ (f < m → Q f) := by
  intro m
  induction m with
  | zero => exact ⟨0, Nat.le_refl _, fun j hj => absurd hj (Nat.not_lt_zero _), fun h => absurd h (Nat.not_lt_zero _)⟩
  | succ m ih =>
    obtain ⟨f, h1, h2, h3⟩ := ih
    rcases Nat.lt_or_ge f m with g | g
    · exact ⟨f, by omega, h2, fun _ => h3 g⟩
    · have e : f = m := by omega
      rw [e] at h2
      by_cases q : Q m
      · exact ⟨m, by omega, h2, fun _ => q⟩
      · refine ⟨m + 1, by omega, fun j hj => ?_, fun h => absurd h (Nat.lt_irrefl _)⟩
        rcases Nat.lt_or_ge j m with g2 | g2
        · exact h2 j g2
        · have e2 : j = m := by omega
          rw [e2]; exact q
theorem pp_dn {x : Int32} (h : x = 0) : ¬ decide (¬ x = 0) = true := by simp [h]
theorem pp_dy {x : Int32} (h : ¬ x = 0) : decide (¬ x = 0) = true := by simp [h]
section
variable {p t : Int32} {H K V B L G E C : Nat → Int32} {b : Nat → Nat} {pc tc : Nat} {post : Int32 → Prop}
theorem pp_xKey_t {q : Nat} (hq : q < 256) (hp : post 1) : wpX_isKey post (p, t, H, K, V, B, L, G, E) (nI q) := by
  unfold wpX_isKey
  exact br_f (nI_pos (by omega)) (pk_lt 255 q (fun h => absurd h (by omega)) (fun _ => hp))
theorem pp_xKey_f {x : Int32} (h : ¬ ∃ q, q < 256 ∧ x = nI q) (hp : post 0) : wpX_isKey post (p, t, H, K, V, B, L, G, E) x := by
  unfold wpX_isKey
  rcases pp_cls x 256 with a | ⟨j, hj, h31, rfl⟩ | ⟨j, hj, h31, rfl⟩
  · exact br_t a hp
  · exact br_f (nI_pos h31) (pk_lt 255 j (fun _ => hp) (fun h => absurd h (by omega)))
  · exact absurd ⟨j, hj, rfl⟩ h
theorem pp_xRow_t {j : Nat} (hj : j < 40) (h : ¬ H j = 0) (hp : post 1) : wpX_isRow post (p, t, H, K, V, B, L, G, E) (nI j) := by
  have e : (nI j).toNatClampNeg = j := nI_clamp (by omega)
  unfold wpX_isRow
  exact br_f (nI_pos (by omega)) (pk_le 40 j (fun h => absurd h (by omega)) (fun _ => ⟨vp_in_nI hj (by decide), br_f (by rw [e]; exact h) hp⟩))
theorem pp_xRow_f {x : Int32} (h : ¬ ∃ j, j < 40 ∧ x = nI j ∧ ¬ H j = 0) (hp : post 0) : wpX_isRow post (p, t, H, K, V, B, L, G, E) x := by
  unfold wpX_isRow
  rcases pp_cls x 40 with a | ⟨j, hj, h31, rfl⟩ | ⟨j, hj, h31, rfl⟩
  · exact br_t a hp
  · exact br_f (nI_pos h31) (pk_le 40 j (fun _ => hp) (fun h => absurd h (by omega)))
  · have e : (nI j).toNatClampNeg = j := nI_clamp h31
    have z : H j = 0 := by
      by_cases z : H j = 0
      · exact z
      · exact absurd ⟨j, hj, rfl, z⟩ h
    exact br_f (nI_pos h31) (pk_le 40 j (fun h => absurd h (by omega)) (fun _ => ⟨vp_in_nI hj (by decide), br_t (by rw [e]; exact z) hp⟩))
theorem pp_xPar_t {j : Nat} (h8 : pc ≤ 8) (hj : j < pc) (hp : post 1) : wpX_isPartition post (nI pc, t, H, K, V, B, L, G, E) (nI j) := by
  unfold wpX_isPartition
  exact br_f (nI_pos (by omega)) (pk_le pc j (fun h => absurd h (by omega)) (fun _ => hp))
theorem pp_xPar_f {x : Int32} (h8 : pc ≤ 8) (h : ¬ ∃ j, j < pc ∧ x = nI j) (hp : post 0) : wpX_isPartition post (nI pc, t, H, K, V, B, L, G, E) x := by
  unfold wpX_isPartition
  rcases pp_cls x pc with a | ⟨j, hj, h31, rfl⟩ | ⟨j, hj, h31, rfl⟩
  · exact br_t a hp
  · exact br_f (nI_pos h31) (pk_le pc j (fun _ => hp) (fun h => absurd h (by omega)))
  · exact absurd ⟨j, hj, rfl⟩ h
theorem pp_xFree {f : Nat} (hf : f ≤ 40) (h1 : ∀ j, j < f → ¬ H j = 0) (h2 : f < 40 → H f = 0) (hp : post (nI f)) : wpX_smallestFreeId post (p, t, H, K, V, B, L, G, E) := by
  unfold wpX_smallestFreeId
  refine pp_lp (fun n i => wX_smallestFreeId_2 post p t H K V B L G E n (nI i)) (fun _ => True) f 0 (Nat.zero_le _) trivial (fun n _ => ?_) (fun n i _ hi _ ih => ?_)
  · have e : (nI f).toNatClampNeg = f := nI_clamp (by omega)
    refine pk_le 40 f (fun h => ?_) (fun h => ⟨vp_in_nI h (by decide), br_t (by rw [e]; exact h2 h) hp⟩)
    have q : f = 40 := by omega
    rw [q] at hp
    exact hp
  · have e : (nI i).toNatClampNeg = i := nI_clamp (by omega)
    exact pk_le 40 i (fun h => absurd h (by omega)) (fun h => ⟨vp_in_nI h (by decide), br_f (by rw [e]; exact h1 i hi) (nm_r (nI_1 i) (ih trivial))⟩)
theorem pp_xRows (hp : post (nI (pp_ct (fun j => decide (¬ H j = 0)) 40))) : wpX_rowCount post (p, t, H, K, V, B, L, G, E) := by
  have key : ∃ n, ∀ a, a = nI (pp_ct (fun j => decide (¬ H j = 0)) 0) → wX_rowCount_4 post p t H K V B L G E n a (nI 0) := by
    refine pp_lp (fun n i => ∀ a, a = nI (pp_ct (fun j => decide (¬ H j = 0)) i) → wX_rowCount_4 post p t H K V B L G E n a (nI i)) (fun _ => True) 40 0 (by omega) trivial (fun n _ a ea => ?_) (fun n i _ hi _ ih a ea => ?_)
    · subst ea
      exact pk_le 40 40 (fun _ => hp) (fun h => absurd h (by decide))
    · have e : (nI i).toNatClampNeg = i := nI_clamp (by omega)
      subst ea
      refine pk_le 40 i (fun h => absurd h (by omega)) (fun h => ⟨vp_in_nI h (by decide), br_c (fun z => nm_r (nI_1 i) (ih trivial _ ?_)) (fun z => nm_e (nm_r (nI_1 i) (ih trivial _ ?_)))⟩)
      · rw [e] at z
        rw [pp_ct_n (pp_dn z)]
      · rw [e] at z
        rw [pp_ct_y (pp_dy z), nI_1]
  obtain ⟨n, h⟩ := key
  unfold wpX_rowCount
  exact ⟨n, h _ rfl⟩
theorem pp_xPo {q : Nat} (J : pp_J K B C b pc tc) (hq : q ≤ 255) (hp : post (nI (pp_pt C q))) : ∀ H' K' : Nat → Int32, wpX_partitionOf post (nI pc, t, H', K', V, B, L, G, E) (nI q) := by
  intro H' K'
  obtain ⟨hB, hb, _, _⟩ := J
  have h1 := hB.1
  have h8 := hB.2.1
  have h0 := hB.2.2.1
  unfold wpX_partitionOf
  refine nm_r (pk_sub (a := pc) (b := 1) h1) ?_
  refine pp_lpd (fun n i => wX_partitionOf_7 post (nI q) (nI pc) t H' K' V B L G E n (nI i)) (fun i => ∀ j, i < j → j < pc → q < b j) 0 (pc - 1) (Nat.zero_le _) (fun j a c => absurd c (by omega)) (fun n I0 => ?_) (fun n i _ hi Ii ih => ?_)
  · refine br_t (by decide) ?_
    have e : pp_pt C q = 0 := pp_pt_u hB hq h1 (by omega) I0
    rw [e] at hp
    exact hp
  · have hb5 := hB.2.2.2.2.1 (i + 1) (by omega)
    have e : B (nI (i + 1)).toNatClampNeg = nI (b (i + 1)) := by
      rw [nI_clamp (by omega)]
      exact hb _ (by omega)
    refine br_f (nI_nle (by omega) (by omega)) ⟨vp_in_nI (by omega) (by decide), pk_lt q (b (i + 1)) (fun h => nm_r (pk_m1 i) (ih (fun j a c => ?_))) (fun h => ?_) rfl e (by omega) (by omega)⟩
    · rcases Nat.lt_or_ge (i + 1) j with g | g
      · exact Ii j g c
      · have q2 : j = i + 1 := by omega
        rw [q2]; exact h
    · have e2 : pp_pt C q = i + 1 := pp_pt_u hB hq (by omega) h (fun j a c => Ii j a c)
      rw [e2] at hp
      exact hp
theorem pp_xLies {id i : Nat} (J : pp_J K B C b pc tc) (hid : id < 40) (hi : i < pc) (H' : Nat → Int32) (eH : H' id = H id) (hp : post (pp_i (pp_ps H K C i id))) : wpX_liesIn post (nI pc, t, H', K, V, B, L, G, E) (nI id) (nI i) := by
  have e : (nI id).toNatClampNeg = id := nI_clamp (by omega)
  have h8 := J.1.2.1
  unfold wpX_liesIn
  refine ⟨vp_in_nI hid (by decide), br_c (fun z => ?_) (fun z => ⟨vp_in_nI hid (by decide), ?_⟩)⟩
  · rw [e, eH] at z
    rw [pp_ps_n z] at hp
    exact hp
  · rw [e, eH] at z
    obtain ⟨q, hq, eq⟩ := J.2.2.2 id hid
    have e2 : K (nI id).toNatClampNeg = nI q := by rw [e, eq]
    have e3 : pp_ps H K C i id = decide (pp_pt C q = i) := by rw [pp_ps_y z, eq, nI_clamp (by omega)]
    have lt := (pp_pt_s J.1 hq).2.1
    rw [e2]
    refine pp_xPo J hq ?_ H' K
    rw [e3] at hp
    refine pk_eq (pp_pt C q) i (fun h => ?_) (fun h => ?_)
    · rw [pp_i_t (by rw [h]; exact decide_eq_true rfl)] at hp
      exact hp
    · rw [pp_i_f (fun w => h (of_decide_eq_true w))] at hp
      exact hp
end
