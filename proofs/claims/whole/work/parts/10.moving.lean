section
variable {p t : Int32} {H K V B L G E C : Nat → Int32} {b : Nat → Nat} {pc tc : Nat}
theorem pp_xTrc_f {post : Int32 → SX → Prop} {x : Int32} (h8 : pc ≤ 8) (h : ¬ ∃ j, j < pc ∧ x = nI j) (hp : post (-5) (nI pc, t, H, K, V, B, L, G, E)) : wpX_truncate post (nI pc, t, H, K, V, B, L, G, E) x := by
  unfold wpX_truncate
  exact pp_xPar_f h8 h (br_t rfl hp)
theorem pp_xTrc {post : Int32 → SX → Prop} {i : Nat} (J : pp_J K B C b pc tc) (hi : i < pc) (hp : post (nI (pp_ct (pp_ps H K C i) 40)) (nI pc, t, pp_tr H (pp_ps H K C i) 40, K, V, B, L, G, E)) : wpX_truncate post (nI pc, t, H, K, V, B, L, G, E) (nI i) := by
  have key : ∃ n, ∀ a A, a = nI (pp_ct (pp_ps H K C i) 0) → A = pp_tr H (pp_ps H K C i) 0 → wX_truncate_15 post (nI i) (nI pc) t n a (nI 0) A K V B L G E := by
    refine pp_lp (fun n j => ∀ a A, a = nI (pp_ct (pp_ps H K C i) j) → A = pp_tr H (pp_ps H K C i) j → wX_truncate_15 post (nI i) (nI pc) t n a (nI j) A K V B L G E) (fun _ => True) 40 0 (by omega) trivial (fun n _ a A ea eA => ?_) (fun n j _ hj _ ih a A ea eA => ?_)
    · subst ea eA
      exact pk_le 40 40 (fun _ => hp) (fun h => absurd h (by decide))
    · have e : (nI j).toNatClampNeg = j := nI_clamp (by omega)
      subst ea eA
      refine pk_le 40 j (fun h => absurd h (by omega)) (fun _ => pp_xLies J hj hi _ pp_tr_m (pp_br (fun h => ⟨vp_in_nI hj (by decide), nm_r (e' := pp_tr H (pp_ps H K C i) (j + 1)) ?_ (nm_e (nm_r (nI_1 j) (ih trivial _ _ ?_ rfl)))⟩) (fun h => nm_r (nI_1 j) (ih trivial _ _ ?_ ?_))))
      · rw [e, pp_v0, pp_tr_y h]
      · rw [pp_ct_y h, nI_1]
      · rw [pp_ct_n h]
      · rw [pp_tr_n h]
  obtain ⟨n, h⟩ := key
  unfold wpX_truncate
  exact pp_xPar_t J.1.2.1 hi (br_f (by decide) ⟨n, h _ _ rfl (pp_tr_0 _ _).symm⟩)
theorem pp_yTrc_f {post : Int32 → SY → Prop} {x : Int32} (hB : pp_Bd b pc C) (h : ¬ ∃ j, j < pc ∧ x = nI j) (hp : post (-5) (t, H, K, V, C, L, G, E)) : wpY_truncate post (t, H, K, V, C, L, G, E) x := by
  have h8 := hB.2.1
  unfold wpY_truncate
  rcases pp_cls x pc with a | ⟨j, hj, h31, rfl⟩ | ⟨j, hj, h31, rfl⟩
  · exact br_t a hp
  · exact br_f (nI_pos h31) (pp_yParts hB (pk_lt j pc (fun h => absurd h (by omega)) (fun _ => hp)))
  · exact absurd ⟨j, hj, rfl⟩ h
theorem pp_yTrc {post : Int32 → SY → Prop} {i : Nat} (hB : pp_Bd b pc C) (hK : pp_KR K) (hi : i < pc) (hp : post (nI (pp_ct (pp_ps H K C i) 40)) (t, pp_tr H (pp_ps H K C i) 40, K, V, C, L, G, E)) : wpY_truncate post (t, H, K, V, C, L, G, E) (nI i) := by
  have h8 := hB.2.1
  have key : ∃ n, ∀ A, A = pp_tr H (pp_ps H K C i) 0 → wY_truncate_23 post (nI i) (nI (pp_ct (pp_ps H K C i) 40)) t n (nI 0) A K V C L G E := by
    refine pp_lp (fun n j => ∀ A, A = pp_tr H (pp_ps H K C i) j → wY_truncate_23 post (nI i) (nI (pp_ct (pp_ps H K C i) 40)) t n (nI j) A K V C L G E) (fun _ => True) 40 0 (by omega) trivial (fun n _ A eA => ?_) (fun n j _ hj _ ih A eA => ?_)
    · subst eA
      exact pk_le 40 40 (fun _ => hp) (fun h => absurd h (by decide))
    · have e : (nI j).toNatClampNeg = j := nI_clamp (by omega)
      have vj : vp_in (nI j) 40 := vp_in_nI hj (by decide)
      obtain ⟨q, hq, eq⟩ := hK j hj
      have e2 : K (nI j).toNatClampNeg = nI q := by rw [e, eq]
      have lt := (pp_pt_s hB hq).2.1
      subst eA
      refine pk_le 40 j (fun h => absurd h (by omega)) (fun _ => ⟨vj, br_c (fun z => nm_r (nI_1 j) (ih trivial _ ?_)) (fun z => ⟨vj, ?_⟩)⟩)
      · rw [e, pp_tr_m] at z
        rw [pp_tr_n (by rw [pp_ps_n z]; decide)]
      · rw [e, pp_tr_m] at z
        have e3 : pp_ps H K C i j = decide (pp_pt C q = i) := by rw [pp_ps_y z, eq, nI_clamp (by omega)]
        rw [e2]
        refine pp_yPart hB hq (pk_eq (pp_pt C q) i (fun h => ⟨vj, nm_r (e' := pp_tr H (pp_ps H K C i) (j + 1)) ?_ (nm_r (nI_1 j) (ih trivial _ rfl))⟩) (fun h => nm_r (nI_1 j) (ih trivial _ ?_)))
        · rw [e, pp_v0, pp_tr_y (by rw [e3]; exact decide_eq_true h)]
        · rw [pp_tr_n (by rw [e3]; exact fun w => h (of_decide_eq_true w))]
  obtain ⟨n, h⟩ := key
  unfold wpY_truncate
  exact br_f (nI_pos (by omega)) (pp_yParts hB (pk_lt i pc (fun _ => pp_yRi_t hB hK hi ⟨n, h _ (pp_tr_0 _ _).symm⟩) (fun h => absurd h (by omega))))
theorem pp_xSpl_f {post : Int32 → SX → Prop} {x : Int32} (h : ¬ ∃ q, 1 ≤ q ∧ q < 256 ∧ x = nI q) (hp : post (-4) (p, t, H, K, V, B, L, G, E)) : wpX_split post (p, t, H, K, V, B, L, G, E) x := by
  unfold wpX_split
  rcases pp_cls x 256 with a | ⟨j, hj, h31, rfl⟩ | ⟨j, hj, h31, rfl⟩
  · exact br_t (Int32.lt_trans a (by decide)) hp
  · exact pk_lt j 1 (fun _ => hp) (fun _ => pk_le j 255 (fun h => absurd h (by omega)) (fun _ => hp))
  · rcases Nat.lt_or_ge j 1 with g | g
    · exact pk_lt j 1 (fun _ => hp) (fun h => absurd h (by omega))
    · exact absurd ⟨j, g, hj, rfl⟩ h
theorem pp_xSpl {post : Int32 → SX → Prop} {k : Nat} (J : pp_J K B C b pc tc) (k1 : 1 ≤ k) (hk : k < 256)
    (hb : b (pp_pt C k) = k → post (-4) (nI pc, t, H, K, V, B, L, G, E)) (hn : b (pp_pt C k) ≠ k → 8 ≤ pc → post (-2) (nI pc, t, H, K, V, B, L, G, E))
    (hp : b (pp_pt C k) ≠ k → pc < 8 → post (nI (pp_pt C k + 1)) (nI (pc + 1), t, H, K, V, upd (pp_sh B (pp_pt C k + 1) pc) (pp_pt C k + 1) (nI k), L, G, E)) : wpX_split post (nI pc, t, H, K, V, B, L, G, E) (nI k) := by
  have hB := J.1
  have h8 := hB.2.1
  obtain ⟨_, lt, _, _⟩ := pp_pt_s hB (by omega : k ≤ 255)
  have h5 := hB.2.2.2.2.1 _ lt
  have e : (nI (pp_pt C k)).toNatClampNeg = pp_pt C k := nI_clamp (by omega)
  have eb : B (nI (pp_pt C k)).toNatClampNeg = nI (b (pp_pt C k)) := by
    rw [e]
    exact J.2.1 _ lt
  unfold wpX_split
  refine pk_lt k 1 (fun h => absurd h (by omega)) (fun _ => pk_le k 255 (fun _ => ?_) (fun h => absurd h (by omega)))
  refine pp_xPo J (by omega) ⟨vp_in_nI (by omega) (by decide), pk_eq (b (pp_pt C k)) k (fun h => hb h) (fun h => pk_lt pc 8 (fun g => nm_r (nI_1 _) ?_) (fun g => hn h g)) eb rfl (by omega) (by omega)⟩ H K
  have key : ∃ n, ∀ A, A = pp_sh B pc pc → wX_split_56 post (nI k) (nI (pp_pt C k + 1)) (nI pc) t n (nI pc) H K V A L G E := by
    refine pp_lpd (fun n i => ∀ A, A = pp_sh B i pc → wX_split_56 post (nI k) (nI (pp_pt C k + 1)) (nI pc) t n (nI i) H K V A L G E) (fun _ => True) (pp_pt C k + 1) pc (by omega) trivial (fun n _ A eA => ?_) (fun n i hl hi _ ih A eA => ?_)
    · subst eA
      have e1 : (nI (pp_pt C k + 1)).toNatClampNeg = pp_pt C k + 1 := nI_clamp (by omega)
      exact pk_le (pp_pt C k + 1) (pp_pt C k + 1) (fun _ => ⟨vp_in_nI (by omega) (by decide), nm_r (by rw [e1]) (nm_r (nI_1 pc) (hp h g))⟩) (fun h => absurd h (Nat.lt_irrefl _))
    · subst eA
      have e1 : (nI (i + 1)).toNatClampNeg = i + 1 := nI_clamp (by omega)
      have e0 : (nI i).toNatClampNeg = i := nI_clamp (by omega)
      refine pk_le (i + 1) (pp_pt C k + 1) (fun h => absurd h (by omega)) (fun _ => ⟨?_, vp_in_nI (by omega) (by decide), nm_r (e' := pp_sh B i pc) ?_ (nm_r (pk_m1 i) (ih trivial _ rfl))⟩)
      · rw [nI_pred]
        exact vp_in_nI (by omega) (by decide)
      · rw [nI_pred, e1, e0]
        exact pp_sh_s (by omega)
  obtain ⟨n, h⟩ := key
  exact ⟨n, h _ (pp_sh_0 _ _).symm⟩
theorem pp_ySpl_f {post : Int32 → SY → Prop} {x : Int32} (h : ¬ ∃ q, 1 ≤ q ∧ q < 256 ∧ x = nI q) (hp : post (-4) (t, H, K, V, C, L, G, E)) : wpY_split post (t, H, K, V, C, L, G, E) x := by
  unfold wpY_split
  rcases pp_cls x 256 with a | ⟨j, hj, h31, rfl⟩ | ⟨j, hj, h31, rfl⟩
  · exact br_t (Int32.lt_trans a (by decide)) hp
  · exact pk_lt j 1 (fun _ => hp) (fun _ => pk_lt 255 j (fun _ => hp) (fun h => absurd h (by omega)))
  · rcases Nat.lt_or_ge j 1 with g | g
    · exact pk_lt j 1 (fun _ => hp) (fun h => absurd h (by omega))
    · exact absurd ⟨j, g, hj, rfl⟩ h
theorem pp_ySpl {post : Int32 → SY → Prop} {k : Nat} (hB : pp_Bd b pc C) (k1 : 1 ≤ k) (hk : k < 256)
    (hb : b (pp_pt C k) = k → post (-4) (t, H, K, V, C, L, G, E)) (hn : b (pp_pt C k) ≠ k → 8 ≤ pc → post (-2) (t, H, K, V, C, L, G, E))
    (hp : b (pp_pt C k) ≠ k → pc < 8 → post (nI (pp_pt C k + 1)) (t, H, K, V, upd C k 1, L, G, E)) : wpY_split post (t, H, K, V, C, L, G, E) (nI k) := by
  have h8 := hB.2.1
  have hk5 : k ≤ 255 := by omega
  obtain ⟨_, lt, le, gt⟩ := pp_pt_s hB hk5
  have e : (nI k).toNatClampNeg = k := nI_clamp (by omega)
  have vk : vp_in (nI k) 256 := vp_in_nI hk (by decide)
  unfold wpY_split
  refine pk_lt k 1 (fun h => absurd h (by omega)) (fun _ => pk_lt 255 k (fun h => absurd h (by omega)) (fun _ => ⟨vk, br_c (fun z => ?_) (fun z => ?_)⟩))
  · rw [e] at z
    have ne : b (pp_pt C k) ≠ k := fun w => (pp_C_pt hB hk5).mpr w z
    refine pp_yParts hB (pk_eq pc 8 (fun h => hn ne (by omega)) (fun h => ⟨vk, nm_r (e' := upd C k 1) ?_ ?_⟩))
    · rw [e, pp_v1]
    · have p8 : pc < 8 := by omega
      have l2 : b (pp_pt C k) < k := by omega
      refine pp_yPart (pp_split hB p8 hk5 (by decide) lt l2 gt) hk5 ?_
      rw [pp_split_pt hB p8 hk5 (by decide) lt l2 gt]
      exact hp ne p8
  · rw [e] at z
    exact hb ((pp_C_pt hB hk5).mp z)
theorem pp_xMrg_f {post : Int32 → SX → Prop} {x : Int32} (h1 : 1 ≤ pc) (h8 : pc ≤ 8) (h : ¬ ∃ i, i + 1 < pc ∧ x = nI i) (hp : post (-5) (nI pc, t, H, K, V, B, L, G, E)) : wpX_merge post (nI pc, t, H, K, V, B, L, G, E) x := by
  unfold wpX_merge
  rcases pp_cls x (pc - 1) with a | ⟨j, hj, h31, rfl⟩ | ⟨j, hj, h31, rfl⟩
  · exact br_t a hp
  · exact br_f (nI_pos h31) (pk_lt j (pc - 1) (fun h => absurd h (by omega)) (fun _ => hp) rfl (pk_sub (a := pc) (b := 1) h1))
  · exact absurd ⟨j, by omega, rfl⟩ h
theorem pp_xMrg {post : Int32 → SX → Prop} {i : Nat} (J : pp_J K B C b pc tc) (hi : i + 1 < pc)
    (hp : post (nI (pp_ct (pp_ps H K (upd C (b (i + 1)) 0) i) 40)) (nI (pc - 1), t, H, K, V, pp_sl B (i + 1) (pc - 1), L, G, E)) : wpX_merge post (nI pc, t, H, K, V, B, L, G, E) (nI i) := by
  have h1 := J.1.1
  have h8 := J.1.2.1
  have J2 : pp_J K (pp_sl B (i + 1) (pc - 1)) (upd C (b (i + 1)) 0) (pp_b2 b i) (pc - 1) tc := ⟨pp_merge J.1 hi, pp_sl_e J.2.1 hi, J.2.2⟩
  unfold wpX_merge
  refine br_f (nI_pos (by omega)) (pk_lt i (pc - 1) (fun _ => nm_r (pk_sub (a := pc) (b := 1) h1) (nm_r (nI_1 i) ?_)) (fun h => absurd h (by omega)) rfl (pk_sub (a := pc) (b := 1) h1))
  have key : ∃ n, ∀ A, A = pp_sl B (i + 1) (i + 1) → wX_merge_31 post (nI i) (nI (pc - 1)) t n (nI (i + 1)) H K V A L G E := by
    refine pp_lp (fun n j => ∀ A, A = pp_sl B (i + 1) j → wX_merge_31 post (nI i) (nI (pc - 1)) t n (nI j) H K V A L G E) (fun _ => True) (pc - 1) (i + 1) (by omega) trivial (fun n _ A eA => ?_) (fun n j hl hj _ ih A eA => ?_)
    · subst eA
      exact pk_le (pc - 1) (pc - 1) (fun _ => pp_xRop J2 (by omega) hp) (fun h => absurd h (Nat.lt_irrefl _))
    · subst eA
      have e1 : (nI (j + 1)).toNatClampNeg = j + 1 := nI_clamp (by omega)
      have e0 : (nI j).toNatClampNeg = j := nI_clamp (by omega)
      refine pk_le (pc - 1) j (fun h => absurd h (by omega)) (fun _ => ⟨?_, vp_in_nI (by omega) (by decide), nm_r (e' := pp_sl B (i + 1) (j + 1)) ?_ (nm_r (nI_1 j) (ih trivial _ rfl))⟩)
      · rw [nI_1]
        exact vp_in_nI (by omega) (by decide)
      · rw [nI_1, e1, e0]
        exact pp_sl_s (by omega)
  obtain ⟨n, h⟩ := key
  exact ⟨n, h _ (pp_sl_0 _ _).symm⟩
theorem pp_yMrg_f {post : Int32 → SY → Prop} {x : Int32} (hB : pp_Bd b pc C) (h : ¬ ∃ i, i + 1 < pc ∧ x = nI i) (hp : post (-5) (t, H, K, V, C, L, G, E)) : wpY_merge post (t, H, K, V, C, L, G, E) x := by
  have h1 := hB.1
  have h8 := hB.2.1
  unfold wpY_merge
  rcases pp_cls x (pc - 1) with a | ⟨j, hj, h31, rfl⟩ | ⟨j, hj, h31, rfl⟩
  · exact br_t a hp
  · exact br_f (nI_pos h31) (pp_yParts hB (pk_lt j (pc - 1) (fun h => absurd h (by omega)) (fun _ => hp) rfl (pk_sub (a := pc) (b := 1) h1)))
  · exact absurd ⟨j, by omega, rfl⟩ h
theorem pp_yMrg {post : Int32 → SY → Prop} {i : Nat} (hB : pp_Bd b pc C) (hK : pp_KR K) (hi : i + 1 < pc)
    (hp : post (nI (pp_ct (pp_ps H K (upd C (b (i + 1)) 0) i) 40)) (t, H, K, V, upd C (b (i + 1)) 0, L, G, E)) : wpY_merge post (t, H, K, V, C, L, G, E) (nI i) := by
  have h1 := hB.1
  have h8 := hB.2.1
  have h5 := hB.2.2.2.2.1 (i + 1) hi
  have e : (nI (b (i + 1))).toNatClampNeg = b (i + 1) := nI_clamp (by omega)
  unfold wpY_merge
  refine br_f (nI_pos (by omega)) (pp_yParts hB (pk_lt i (pc - 1) (fun _ => ?_) (fun h => absurd h (by omega)) rfl (pk_sub (a := pc) (b := 1) h1)))
  rw [nI_1]
  refine pp_yBound_t hB hi ⟨vp_in_nI (by omega) (by decide), nm_r (e' := upd C (b (i + 1)) 0) ?_ (pp_yRi_t (pp_merge hB hi) hK (by omega) hp)⟩
  rw [e, pp_v0]
end
