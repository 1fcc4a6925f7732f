section
variable {p t : Int32} {H K V B L G E C : Nat → Int32} {b : Nat → Nat} {pc tc : Nat}
theorem pp_xIns_f {post : Int32 → SX → Prop} {x y : Int32} (h : ¬ ∃ q, q < 256 ∧ x = nI q) (hp : post (-1) (p, t, H, K, V, B, L, G, E)) : wpX_insert post (p, t, H, K, V, B, L, G, E) x y := by
  unfold wpX_insert
  exact pp_xKey_f h (br_t rfl hp)
theorem pp_xIns {post : Int32 → SX → Prop} {q f : Nat} {y : Int32} (hq : q < 256) (hf : f ≤ 40) (h1 : ∀ j, j < f → ¬ H j = 0) (h2 : f < 40 → H f = 0)
    (hp : f < 40 → post (nI f) (p, t, upd H f 1, upd K f (nI q), upd V f y, B, L, G, E)) (hn : 40 ≤ f → post (-2) (p, t, H, K, V, B, L, G, E)) : wpX_insert post (p, t, H, K, V, B, L, G, E) (nI q) y := by
  have e : (nI f).toNatClampNeg = f := nI_clamp (by omega)
  unfold wpX_insert
  refine pp_xKey_t hq (br_f (by decide) (pp_xFree hf h1 h2 (pk_lt f 40 (fun h => ?_) (fun h => hn h))))
  have v : vp_in (nI f) 40 := vp_in_nI h (by decide)
  exact ⟨v, nm_r (by rw [e, pp_v1]) ⟨v, nm_r (by rw [e]) ⟨v, nm_r (by rw [e]) (hp h)⟩⟩⟩
theorem pp_yIns_f {post : Int32 → SY → Prop} {x y : Int32} (h : ¬ ∃ q, q < 256 ∧ x = nI q) (hp : post (-1) (t, H, K, V, C, L, G, E)) : wpY_insert post (t, H, K, V, C, L, G, E) x y := by
  unfold wpY_insert
  exact pp_yKey_f h (br_f (by decide) hp)
theorem pp_yIns {post : Int32 → SY → Prop} {q f : Nat} {y : Int32} (hq : q < 256) (hf : f ≤ 40) (h1 : ∀ j, j < f → ¬ H j = 0) (h2 : f < 40 → H f = 0)
    (hp : f < 40 → post (nI f) (t, upd H f 1, upd K f (nI q), upd V f y, C, L, G, E)) (hn : 40 ≤ f → post (-2) (t, H, K, V, C, L, G, E)) : wpY_insert post (t, H, K, V, C, L, G, E) (nI q) y := by
  unfold wpY_insert
  refine pp_yKey_t hq (br_t rfl ?_)
  refine pp_lp (fun n i => wY_insert_12 post (nI q) y t H K V C L G E n (nI i)) (fun _ => True) f 0 (Nat.zero_le _) trivial (fun n _ => ?_) (fun n i _ hi _ ih => ?_)
  · have e : (nI f).toNatClampNeg = f := nI_clamp (by omega)
    refine pk_le 40 f (fun h => hn h) (fun h => ?_)
    have v : vp_in (nI f) 40 := vp_in_nI h (by decide)
    exact ⟨v, br_t (by rw [e]; exact h2 h) ⟨v, nm_r (by rw [e, pp_v1]) ⟨v, nm_r (by rw [e]) ⟨v, nm_r (by rw [e]) (hp h)⟩⟩⟩⟩
  · have e : (nI i).toNatClampNeg = i := nI_clamp (by omega)
    exact pk_le 40 i (fun h => absurd h (by omega)) (fun h => ⟨vp_in_nI h (by decide), br_f (by rw [e]; exact h1 i hi) (nm_r (nI_1 i) (ih trivial))⟩)
theorem pp_xDel_f {post : Int32 → SX → Prop} {x : Int32} (h : ¬ ∃ j, j < 40 ∧ x = nI j ∧ ¬ H j = 0) (hp : post (-3) (p, t, H, K, V, B, L, G, E)) : wpX_delete post (p, t, H, K, V, B, L, G, E) x := by
  unfold wpX_delete
  exact pp_xRow_f h (br_t rfl hp)
theorem pp_xDel {post : Int32 → SX → Prop} {j : Nat} (hj : j < 40) (h : ¬ H j = 0) (hp : post (nI (pp_ct (fun o => decide (¬ upd H j 0 o = 0)) 40)) (p, t, upd H j 0, K, V, B, L, G, E)) : wpX_delete post (p, t, H, K, V, B, L, G, E) (nI j) := by
  have e : (nI j).toNatClampNeg = j := nI_clamp (by omega)
  unfold wpX_delete
  exact pp_xRow_t hj h (br_f (by decide) ⟨vp_in_nI hj (by decide), nm_r (by rw [e, pp_v0]) (pp_xRows hp)⟩)
theorem pp_yDel_f {post : Int32 → SY → Prop} {x : Int32} (h : ¬ ∃ j, j < 40 ∧ x = nI j ∧ ¬ H j = 0) (hp : post (-3) (t, H, K, V, C, L, G, E)) : wpY_delete post (t, H, K, V, C, L, G, E) x := by
  unfold wpY_delete
  exact pp_yRow_f h (br_f (by decide) hp)
theorem pp_yDl {post : Int32 → SY → Prop} (hp : post (nI (pp_ct (fun o => decide (¬ H o = 0)) 40)) (t, H, K, V, C, L, G, E)) : ∃ n, wY_delete_22 post t H K V C L G E n 0 0 := by
  have key : ∃ n, ∀ a, a = nI (pp_ct (fun j => decide (¬ H j = 0)) 0) → wY_delete_22 post t H K V C L G E n a (nI 0) := by
    refine pp_lp (fun n i => ∀ a, a = nI (pp_ct (fun j => decide (¬ H j = 0)) i) → wY_delete_22 post t H K V C L G E n a (nI i)) (fun _ => True) 40 0 (by omega) trivial (fun n _ a ea => ?_) (fun n i _ hi _ ih a ea => ?_)
    · subst ea
      exact pk_le 40 40 (fun _ => hp) (fun h => absurd h (by decide))
    · have e : (nI i).toNatClampNeg = i := nI_clamp (by omega)
      subst ea
      refine pk_le 40 i (fun h => absurd h (by omega)) (fun h => ⟨vp_in_nI h (by decide), br_c (fun z => nm_r (nI_1 i) (ih trivial _ ?_)) (fun z => nm_e (nm_r (nI_1 i) (ih trivial _ ?_)))⟩)
      · rw [e] at z
        rw [pp_ct_n (pp_dn z)]
      · rw [e] at z
        rw [pp_ct_y (pp_dy z), nI_1]
  obtain ⟨n, h⟩ := key
  exact ⟨n, h _ rfl⟩
theorem pp_yDel {post : Int32 → SY → Prop} {j : Nat} (hj : j < 40) (h : ¬ H j = 0) (hp : post (nI (pp_ct (fun o => decide (¬ upd H j 0 o = 0)) 40)) (t, upd H j 0, K, V, C, L, G, E)) : wpY_delete post (t, H, K, V, C, L, G, E) (nI j) := by
  have e : (nI j).toNatClampNeg = j := nI_clamp (by omega)
  unfold wpY_delete
  exact pp_yRow_t hj h (br_t rfl ⟨vp_in_nI hj (by decide), nm_r (by rw [e, pp_v0]) (pp_yDl hp)⟩)
theorem pp_xUpd_f {post : Int32 → SX → Prop} {x y z : Int32} (h : ¬ ∃ j, j < 40 ∧ x = nI j ∧ ¬ H j = 0) (hp : post (-3) (p, t, H, K, V, B, L, G, E)) : wpX_update post (p, t, H, K, V, B, L, G, E) x y z := by
  unfold wpX_update
  exact pp_xRow_f h (br_t rfl hp)
theorem pp_xUpd_k {post : Int32 → SX → Prop} {j : Nat} {y z : Int32} (hj : j < 40) (h : ¬ H j = 0) (hk : ¬ ∃ q, q < 256 ∧ y = nI q) (hp : post (-1) (p, t, H, K, V, B, L, G, E)) : wpX_update post (p, t, H, K, V, B, L, G, E) (nI j) y z := by
  unfold wpX_update
  exact pp_xRow_t hj h (br_f (by decide) (pp_xKey_f hk (br_t rfl hp)))
theorem pp_xUpd {post : Int32 → SX → Prop} {j q : Nat} {z : Int32} (hj : j < 40) (h : ¬ H j = 0) (hq : q < 256) (hp : post 0 (p, t, H, upd K j (nI q), upd V j z, B, L, G, E)) : wpX_update post (p, t, H, K, V, B, L, G, E) (nI j) (nI q) z := by
  have e : (nI j).toNatClampNeg = j := nI_clamp (by omega)
  have v : vp_in (nI j) 40 := vp_in_nI hj (by decide)
  unfold wpX_update
  exact pp_xRow_t hj h (br_f (by decide) (pp_xKey_t hq (br_f (by decide) ⟨v, nm_r (by rw [e]) ⟨v, nm_r (by rw [e]) hp⟩⟩)))
theorem pp_yUpd_f {post : Int32 → SY → Prop} {x y z : Int32} (h : ¬ ∃ j, j < 40 ∧ x = nI j ∧ ¬ H j = 0) (hp : post (-3) (t, H, K, V, C, L, G, E)) : wpY_update post (t, H, K, V, C, L, G, E) x y z := by
  unfold wpY_update
  exact pp_yRow_f h (br_f (by decide) hp)
theorem pp_yUpd_k {post : Int32 → SY → Prop} {j : Nat} {y z : Int32} (hj : j < 40) (h : ¬ H j = 0) (hk : ¬ ∃ q, q < 256 ∧ y = nI q) (hp : post (-1) (t, H, K, V, C, L, G, E)) : wpY_update post (t, H, K, V, C, L, G, E) (nI j) y z := by
  unfold wpY_update
  exact pp_yRow_t hj h (br_t rfl (pp_yKey_f hk (br_f (by decide) hp)))
theorem pp_yUpd {post : Int32 → SY → Prop} {j q : Nat} {z : Int32} (hj : j < 40) (h : ¬ H j = 0) (hq : q < 256) (hp : post 0 (t, H, upd K j (nI q), upd V j z, C, L, G, E)) : wpY_update post (t, H, K, V, C, L, G, E) (nI j) (nI q) z := by
  have e : (nI j).toNatClampNeg = j := nI_clamp (by omega)
  have v : vp_in (nI j) 40 := vp_in_nI hj (by decide)
  unfold wpY_update
  exact pp_yRow_t hj h (br_t rfl (pp_yKey_t hq (br_t rfl ⟨v, nm_r (by rw [e]) ⟨v, nm_r (by rw [e]) hp⟩⟩)))
theorem pp_xTrm {post : Int32 → SX → Prop} {x y z : Int32} (h4 : tc ≤ 4) (hn : tc = 4 → post (-2) (p, nI tc, H, K, V, B, L, G, E)) (hp : tc < 4 → post (nI (tc + 1)) (p, nI (tc + 1), H, K, V, B, upd L tc x, upd G tc y, upd E tc z)) : wpX_term post (p, nI tc, H, K, V, B, L, G, E) x y z := by
  have e : (nI tc).toNatClampNeg = tc := nI_clamp (by omega)
  unfold wpX_term
  refine pk_lt tc 4 (fun h => ?_) (fun h => hn (by omega))
  have v : vp_in (nI tc) 4 := vp_in_nI h (by decide)
  exact ⟨v, nm_r (by rw [e]) ⟨v, nm_r (by rw [e]) ⟨v, nm_r (by rw [e]) (nm_r (nI_1 tc) (hp h))⟩⟩⟩
theorem pp_yTrm {post : Int32 → SY → Prop} {x y z : Int32} (h4 : tc ≤ 4) (hn : tc = 4 → post (-2) (nI tc, H, K, V, C, L, G, E)) (hp : tc < 4 → post (nI (tc + 1)) (nI (tc + 1), H, K, V, C, upd L tc x, upd G tc y, upd E tc z)) : wpY_term post (nI tc, H, K, V, C, L, G, E) x y z := by
  have e : (nI tc).toNatClampNeg = tc := nI_clamp (by omega)
  unfold wpY_term
  refine pk_eq tc 4 (fun h => hn h) (fun h => ?_)
  have v : vp_in (nI tc) 4 := vp_in_nI (by omega) (by decide)
  exact ⟨v, nm_r (by rw [e]) ⟨v, nm_r (by rw [e]) ⟨v, nm_r (by rw [e]) (nm_r (nI_1 tc) (hp (by omega)))⟩⟩⟩
end
