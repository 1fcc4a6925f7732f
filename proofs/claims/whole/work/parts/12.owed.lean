def i_Rel (_ : Nat) (u : SX) (v : SY) : Prop := ∃ (H K V L G E B C : Nat → Int32) (b : Nat → Nat) (pc tc : Nat), u = (nI pc, nI tc, H, K, V, B, L, G, E) ∧ v = (nI tc, H, K, V, C, L, G, E) ∧ pp_J K B C b pc tc
theorem i_up {k : Nat} {u : SX} {v : SY} (h : i_Rel k u v) : i_Rel (k + 4) u v := h
theorem i_vc0 : wpX_init (fun u => wpY_init (fun v => i_Rel 0 u v)) := by
  unfold wpX_init wpY_init
  refine nm_r (e' := upd (fun _ => 0) 0 1) rfl ⟨fun _ => 0, fun _ => 0, fun _ => 0, fun _ => 0, fun _ => 0, fun _ => 0, fun _ => 0, upd (fun _ => 0) 0 1, fun _ => 0, 1, 0, rfl, rfl, ⟨by omega, by omega, rfl, fun i j a c => absurd c (by omega), fun i _ => by show 0 ≤ 255; omega, fun k hk => ?_⟩, fun i _ => rfl, by omega, fun id _ => ⟨0, by omega, rfl⟩⟩
  by_cases e : k = 0
  · rw [e, pk_us]
    exact ⟨fun _ => ⟨0, by omega, rfl⟩, fun _ => by decide⟩
  · rw [pk_un e]
    refine ⟨fun w => absurd rfl w, fun w => ?_⟩
    obtain ⟨i, hi, ei⟩ := w
    have q : 0 = k := ei
    omega
theorem i_vc_insert {k : Nat} {u : SX} {v : SY} (I : i_Rel k u v) (hk : k + 4 ≤ 2048) (v1 : Int32) (v2 : Int32) : wpX_insert (fun r u' => wpY_insert (fun r' v' => r' = r ∧ i_Rel (k + 4) u' v') v v1 v2) u v1 v2 := by
  obtain ⟨H, K, V, L, G, E, B, C, b, pc, tc, rfl, rfl, J⟩ := I
  by_cases h : ∃ q, q < 256 ∧ v1 = nI q
  · obtain ⟨q, hq, rfl⟩ := h
    obtain ⟨f, hf, h1, h2⟩ := pp_first (fun j => H j = 0) 40
    refine pp_xIns hq hf h1 h2 (fun h => pp_yIns hq hf h1 h2 (fun _ => ⟨rfl, ?_⟩) (fun g => absurd g (by omega))) (fun h => pp_yIns hq hf h1 h2 (fun g => absurd g (by omega)) (fun _ => ⟨rfl, ?_⟩))
    · exact ⟨upd H f 1, upd K f (nI q), upd V f v2, L, G, E, B, C, b, pc, tc, rfl, rfl, J.1, J.2.1, J.2.2.1, pp_KR_u J.2.2.2 (by omega)⟩
    · exact ⟨H, K, V, L, G, E, B, C, b, pc, tc, rfl, rfl, J⟩
  · exact pp_xIns_f h (pp_yIns_f h ⟨rfl, H, K, V, L, G, E, B, C, b, pc, tc, rfl, rfl, J⟩)
theorem i_vc_delete {k : Nat} {u : SX} {v : SY} (I : i_Rel k u v) (hk : k + 4 ≤ 2048) (v1 : Int32) : wpX_delete (fun r u' => wpY_delete (fun r' v' => r' = r ∧ i_Rel (k + 4) u' v') v v1) u v1 := by
  obtain ⟨H, K, V, L, G, E, B, C, b, pc, tc, rfl, rfl, J⟩ := I
  by_cases h : ∃ j, j < 40 ∧ v1 = nI j ∧ ¬ H j = 0
  · obtain ⟨j, hj, rfl, z⟩ := h
    exact pp_xDel hj z (pp_yDel hj z ⟨rfl, upd H j 0, K, V, L, G, E, B, C, b, pc, tc, rfl, rfl, J⟩)
  · exact pp_xDel_f h (pp_yDel_f h ⟨rfl, H, K, V, L, G, E, B, C, b, pc, tc, rfl, rfl, J⟩)
theorem i_vc_update {k : Nat} {u : SX} {v : SY} (I : i_Rel k u v) (hk : k + 4 ≤ 2048) (v1 : Int32) (v2 : Int32) (v3 : Int32) : wpX_update (fun r u' => wpY_update (fun r' v' => r' = r ∧ i_Rel (k + 4) u' v') v v1 v2 v3) u v1 v2 v3 := by
  obtain ⟨H, K, V, L, G, E, B, C, b, pc, tc, rfl, rfl, J⟩ := I
  by_cases h : ∃ j, j < 40 ∧ v1 = nI j ∧ ¬ H j = 0
  · obtain ⟨j, hj, rfl, z⟩ := h
    by_cases g : ∃ q, q < 256 ∧ v2 = nI q
    · obtain ⟨q, hq, rfl⟩ := g
      exact pp_xUpd hj z hq (pp_yUpd hj z hq ⟨rfl, H, upd K j (nI q), upd V j v3, L, G, E, B, C, b, pc, tc, rfl, rfl, J.1, J.2.1, J.2.2.1, pp_KR_u J.2.2.2 (by omega)⟩)
    · exact pp_xUpd_k hj z g (pp_yUpd_k hj z g ⟨rfl, H, K, V, L, G, E, B, C, b, pc, tc, rfl, rfl, J⟩)
  · exact pp_xUpd_f h (pp_yUpd_f h ⟨rfl, H, K, V, L, G, E, B, C, b, pc, tc, rfl, rfl, J⟩)
theorem i_vc_split {k : Nat} {u : SX} {v : SY} (I : i_Rel k u v) (hk : k + 4 ≤ 2048) (v1 : Int32) : wpX_split (fun r u' => wpY_split (fun r' v' => r' = r ∧ i_Rel (k + 4) u' v') v v1) u v1 := by
  obtain ⟨H, K, V, L, G, E, B, C, b, pc, tc, rfl, rfl, J⟩ := I
  have R : i_Rel (k + 4) (nI pc, nI tc, H, K, V, B, L, G, E) (nI tc, H, K, V, C, L, G, E) := ⟨H, K, V, L, G, E, B, C, b, pc, tc, rfl, rfl, J⟩
  by_cases h : ∃ q, 1 ≤ q ∧ q < 256 ∧ v1 = nI q
  · obtain ⟨q, q1, hq, rfl⟩ := h
    obtain ⟨_, lt, le, gt⟩ := pp_pt_s J.1 (by omega : q ≤ 255)
    refine pp_xSpl J q1 hq (fun a => ?_) (fun a c => ?_) (fun a c => ?_)
    · exact pp_ySpl J.1 q1 hq (fun _ => ⟨rfl, R⟩) (fun w _ => absurd a w) (fun w _ => absurd a w)
    · exact pp_ySpl J.1 q1 hq (fun w => absurd w a) (fun _ _ => ⟨rfl, R⟩) (fun _ w => absurd w (by omega))
    · refine pp_ySpl J.1 q1 hq (fun w => absurd w a) (fun _ w => absurd w (by omega)) (fun _ _ => ⟨rfl, ?_⟩)
      exact ⟨H, K, V, L, G, E, _, _, pp_b1 b (pp_pt C q) q, pc + 1, tc, rfl, rfl, pp_split J.1 c (by omega) (by decide) lt (by omega) gt, pp_sh_e J.2.1 lt, J.2.2⟩
  · exact pp_xSpl_f h (pp_ySpl_f h ⟨rfl, R⟩)
theorem i_vc_merge {k : Nat} {u : SX} {v : SY} (I : i_Rel k u v) (hk : k + 4 ≤ 2048) (v1 : Int32) : wpX_merge (fun r u' => wpY_merge (fun r' v' => r' = r ∧ i_Rel (k + 4) u' v') v v1) u v1 := by
  obtain ⟨H, K, V, L, G, E, B, C, b, pc, tc, rfl, rfl, J⟩ := I
  by_cases h : ∃ i, i + 1 < pc ∧ v1 = nI i
  · obtain ⟨i, hi, rfl⟩ := h
    refine pp_xMrg J hi (pp_yMrg J.1 J.2.2.2 hi ⟨rfl, ?_⟩)
    exact ⟨H, K, V, L, G, E, _, _, pp_b2 b i, pc - 1, tc, rfl, rfl, pp_merge J.1 hi, pp_sl_e J.2.1 hi, J.2.2⟩
  · exact pp_xMrg_f J.1.1 J.1.2.1 h (pp_yMrg_f J.1 h ⟨rfl, H, K, V, L, G, E, B, C, b, pc, tc, rfl, rfl, J⟩)
theorem i_vc_truncate {k : Nat} {u : SX} {v : SY} (I : i_Rel k u v) (hk : k + 4 ≤ 2048) (v1 : Int32) : wpX_truncate (fun r u' => wpY_truncate (fun r' v' => r' = r ∧ i_Rel (k + 4) u' v') v v1) u v1 := by
  obtain ⟨H, K, V, L, G, E, B, C, b, pc, tc, rfl, rfl, J⟩ := I
  by_cases h : ∃ i, i < pc ∧ v1 = nI i
  · obtain ⟨i, hi, rfl⟩ := h
    exact pp_xTrc J hi (pp_yTrc J.1 J.2.2.2 hi ⟨rfl, _, K, V, L, G, E, B, C, b, pc, tc, rfl, rfl, J⟩)
  · exact pp_xTrc_f J.1.2.1 h (pp_yTrc_f J.1 h ⟨rfl, H, K, V, L, G, E, B, C, b, pc, tc, rfl, rfl, J⟩)
theorem i_vc_clearTerms {k : Nat} {u : SX} {v : SY} (I : i_Rel k u v) (hk : k + 4 ≤ 2048) : wpX_clearTerms (fun u' => wpY_clearTerms (fun v' => i_Rel (k + 4) u' v') v) u := by
  obtain ⟨H, K, V, L, G, E, B, C, b, pc, tc, rfl, rfl, J⟩ := I
  unfold wpX_clearTerms wpY_clearTerms
  exact ⟨H, K, V, L, G, E, B, C, b, pc, 0, rfl, rfl, J.1, J.2.1, by omega, J.2.2.2⟩
theorem i_vc_term {k : Nat} {u : SX} {v : SY} (I : i_Rel k u v) (hk : k + 4 ≤ 2048) (v1 : Int32) (v2 : Int32) (v3 : Int32) : wpX_term (fun r u' => wpY_term (fun r' v' => r' = r ∧ i_Rel (k + 4) u' v') v v1 v2 v3) u v1 v2 v3 := by
  obtain ⟨H, K, V, L, G, E, B, C, b, pc, tc, rfl, rfl, J⟩ := I
  have h4 := J.2.2.1
  refine pp_xTrm h4 (fun h => pp_yTrm h4 (fun _ => ⟨rfl, H, K, V, L, G, E, B, C, b, pc, tc, rfl, rfl, J⟩) (fun g => absurd g (by omega))) (fun h => pp_yTrm h4 (fun g => absurd g (by omega)) (fun _ => ⟨rfl, ?_⟩))
  exact ⟨H, K, V, _, _, _, B, C, b, pc, tc + 1, rfl, rfl, J.1, J.2.1, by omega, J.2.2.2⟩
theorem i_vc_partitions {k : Nat} {u : SX} {v : SY} (I : i_Rel k u v) (hk : k + 4 ≤ 2048) : wpX_partitions (fun r => wpY_partitions (fun r' => r' = r ∧ i_Rel (k + 4) u v) v) u := by
  obtain ⟨H, K, V, L, G, E, B, C, b, pc, tc, rfl, rfl, J⟩ := I
  unfold wpX_partitions
  exact pp_yParts J.1 ⟨rfl, H, K, V, L, G, E, B, C, b, pc, tc, rfl, rfl, J⟩
theorem i_vc_bound {k : Nat} {u : SX} {v : SY} (I : i_Rel k u v) (hk : k + 4 ≤ 2048) (v1 : Int32) : wpX_bound (fun r => wpY_bound (fun r' => r' = r ∧ i_Rel (k + 4) u v) v v1) u v1 := by
  obtain ⟨H, K, V, L, G, E, B, C, b, pc, tc, rfl, rfl, J⟩ := I
  have R : i_Rel (k + 4) (nI pc, nI tc, H, K, V, B, L, G, E) (nI tc, H, K, V, C, L, G, E) := ⟨H, K, V, L, G, E, B, C, b, pc, tc, rfl, rfl, J⟩
  have h8 := J.1.2.1
  unfold wpX_bound
  by_cases h : ∃ i, i < pc ∧ v1 = nI i
  · obtain ⟨i, hi, rfl⟩ := h
    have e : B (nI i).toNatClampNeg = nI (b i) := by
      rw [nI_clamp (by omega)]
      exact J.2.1 i hi
    exact pp_xPar_t h8 hi (br_f (by decide) ⟨vp_in_nI (by omega) (by decide), pp_yBound_t J.1 hi ⟨e.symm, R⟩⟩)
  · exact pp_xPar_f h8 h (br_t rfl (pp_yBound_f J.1 h ⟨rfl, R⟩))
theorem i_vc_rowsIn {k : Nat} {u : SX} {v : SY} (I : i_Rel k u v) (hk : k + 4 ≤ 2048) (v1 : Int32) : wpX_rowsIn (fun r => wpY_rowsIn (fun r' => r' = r ∧ i_Rel (k + 4) u v) v v1) u v1 := by
  obtain ⟨H, K, V, L, G, E, B, C, b, pc, tc, rfl, rfl, J⟩ := I
  have R : i_Rel (k + 4) (nI pc, nI tc, H, K, V, B, L, G, E) (nI tc, H, K, V, C, L, G, E) := ⟨H, K, V, L, G, E, B, C, b, pc, tc, rfl, rfl, J⟩
  have h8 := J.1.2.1
  unfold wpX_rowsIn
  by_cases h : ∃ i, i < pc ∧ v1 = nI i
  · obtain ⟨i, hi, rfl⟩ := h
    exact pp_xPar_t h8 hi (br_f (by decide) (pp_xRop J hi (pp_yRi_t J.1 J.2.2.2 hi ⟨rfl, R⟩)))
  · exact pp_xPar_f h8 h (br_t rfl (pp_yRi_f J.1 h ⟨rfl, R⟩))
theorem i_vc_count {k : Nat} {u : SX} {v : SY} (I : i_Rel k u v) (hk : k + 4 ≤ 2048) : wpX_count (fun r => wpY_count (fun r' => r' = r ∧ i_Rel (k + 4) u v) v) u := by
  obtain ⟨H, K, V, L, G, E, B, C, b, pc, tc, rfl, rfl, J⟩ := I
  exact pp_xCount J.2.2.1 (pp_yCount J.2.2.1 ⟨rfl, H, K, V, L, G, E, B, C, b, pc, tc, rfl, rfl, J⟩)
theorem i_vc_sum {k : Nat} {u : SX} {v : SY} (I : i_Rel k u v) (hk : k + 4 ≤ 2048) : wpX_sum (fun r => wpY_sum (fun r' => r' = r ∧ i_Rel (k + 4) u v) v) u := by
  obtain ⟨H, K, V, L, G, E, B, C, b, pc, tc, rfl, rfl, J⟩ := I
  exact pp_xSum J.2.2.1 (pp_ySum J.2.2.1 ⟨rfl, H, K, V, L, G, E, B, C, b, pc, tc, rfl, rfl, J⟩)
theorem i_vc_match {k : Nat} {u : SX} {v : SY} (I : i_Rel k u v) (hk : k + 4 ≤ 2048) (v1 : Int32) : wpX_match (fun r => wpY_match (fun r' => r' = r ∧ i_Rel (k + 4) u v) v v1) u v1 := by
  obtain ⟨H, K, V, L, G, E, B, C, b, pc, tc, rfl, rfl, J⟩ := I
  obtain ⟨f, hf, h1, h2⟩ := pp_first (fun j => pp_fit H K V L G E tc j = true ∧ nI (pp_bf K (pp_fit H K V L G E tc) j) = v1) 40
  exact pp_xMatch J.2.2.1 hf h1 h2 (pp_yMatch J.2.2.1 hf h1 h2 ⟨rfl, H, K, V, L, G, E, B, C, b, pc, tc, rfl, rfl, J⟩)
theorem i_vc_pairs {k : Nat} {u : SX} {v : SY} (I : i_Rel k u v) (hk : k + 4 ≤ 2048) : wpX_pairs (fun r => wpY_pairs (fun r' => r' = r ∧ i_Rel (k + 4) u v) v) u := by
  obtain ⟨H, K, V, L, G, E, B, C, b, pc, tc, rfl, rfl, J⟩ := I
  refine pp_xPairs J.2.2.1 (pp_yPairs J.2.2.1 ⟨?_, H, K, V, L, G, E, B, C, b, pc, tc, rfl, rfl, J⟩)
  rw [pp_prs]
theorem i_vc_touched {k : Nat} {u : SX} {v : SY} (I : i_Rel k u v) (hk : k + 4 ≤ 2048) : wpX_touched (fun r => wpY_touched (fun r' => r' = r ∧ i_Rel (k + 4) u v) v) u := by
  obtain ⟨H, K, V, L, G, E, B, C, b, pc, tc, rfl, rfl, J⟩ := I
  refine pp_xTou J (pp_yTou J.1 J.2.2.2 J.2.2.1 ⟨?_, H, K, V, L, G, E, B, C, b, pc, tc, rfl, rfl, J⟩)
  rw [pp_tou8 J.1 J.2.2.2]
