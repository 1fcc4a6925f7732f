theorem pk_us {f : Nat → Int32} {k : Nat} {x : Int32} : upd f k x k = x := if_pos rfl
theorem pk_un {f : Nat → Int32} {k j : Nat} {x : Int32} (h : j ≠ k) : upd f k x j = f j := if_neg h
theorem pk_sub {a b : Nat} (h : b ≤ a) : nI a - nI b = nI (a - b) := by
  obtain ⟨c, rfl⟩ : ∃ c, a = c + b := ⟨a - b, by omega⟩
  rw [← nI_add, Int32.add_sub_cancel, Nat.add_sub_cancel]
theorem pk_m1 (n : Nat) : nI (n + 1) + (-1) = nI n := by
  rw [← nI_1, Int32.add_assoc, show (1 : Int32) + (-1) = 0 from rfl, Int32.add_zero]
theorem pk_ix (x : Int32) {n : Nat} (hn : n < 2 ^ 31) : x < 0 ∨ nI n ≤ x ∨ ∃ j : Nat, j < n ∧ x = nI j := by
  by_cases h : x < 0
  · exact Or.inl h
  · obtain ⟨j, hj, rfl⟩ := nI_of h
    by_cases h2 : j < n
    · exact Or.inr (Or.inr ⟨j, h2, rfl⟩)
    · exact Or.inr (Or.inl (nI_le (by omega) hj))
theorem pk_le {x y : Int32} {A B : Prop} (a b : Nat) (f : a ≤ b → A) (g : b < a → B) (hx : x = nI a := by rfl) (hy : y = nI b := by rfl) (ha : a < 2 ^ 31 := by omega) (hb : b < 2 ^ 31 := by omega) : (x ≤ y → A) ∧ (¬ x ≤ y → B) := by
  subst hx hy
  rw [nI_leI ha hb]
  exact ⟨f, fun z => g (by omega)⟩
theorem pk_lt {x y : Int32} {A B : Prop} (a b : Nat) (f : a < b → A) (g : b ≤ a → B) (hx : x = nI a := by rfl) (hy : y = nI b := by rfl) (ha : a < 2 ^ 31 := by omega) (hb : b < 2 ^ 31 := by omega) : (x < y → A) ∧ (¬ x < y → B) := by
  subst hx hy
  rw [nI_ltI ha hb]
  exact ⟨f, fun z => g (by omega)⟩
theorem pk_eq {x y : Int32} {A B : Prop} (a b : Nat) (f : a = b → A) (g : a ≠ b → B) (hx : x = nI a := by rfl) (hy : y = nI b := by rfl) (ha : a < 2 ^ 31 := by omega) (hb : b < 2 ^ 31 := by omega) : (x = y → A) ∧ (¬ x = y → B) := by
  subst hx hy
  rw [nI_eq ha hb]
  exact ⟨f, g⟩
theorem pk_in {x : Int32} (n N : Nat) (h : n < N) (hx : x = nI n := by rfl) (hN : N < 2 ^ 31 := by omega) : vp_in x N := by
  subst hx
  exact vp_in_nI h hN
theorem pk_cl {x : Int32} (n : Nat) (hx : x = nI n := by rfl) (h : n < 2 ^ 31 := by omega) : x.toNatClampNeg = n := by
  subst hx
  exact nI_clamp h
theorem pp_lp (W : Nat → Nat → Prop) (I : Nat → Prop) (e i0 : Nat) (hi : i0 ≤ e) (h0 : I i0) (hx : ∀ n, I e → W (n + 1) e)
    (hs : ∀ n i, i0 ≤ i → i < e → I i → (I (i + 1) → W n (i + 1)) → W (n + 1) i) : ∃ n, W n i0 := by
  have key : ∀ d i, i0 ≤ i → i + d = e → I i → W (d + 1) i := by
    intro d
    induction d with
    | zero =>
      intro i _ h hI
      have q : i = e := by omega
      rw [q] at hI ⊢
      exact hx 0 hI
    | succ d ih =>
      intro i h1 h hI
      exact hs (d + 1) i h1 (by omega) hI (fun hI' => ih (i + 1) (by omega) (by omega) hI')
  exact ⟨e - i0 + 1, key (e - i0) i0 (Nat.le_refl _) (by omega) h0⟩
theorem pp_lpd (W : Nat → Nat → Prop) (I : Nat → Prop) (lo i0 : Nat) (hi : lo ≤ i0) (h0 : I i0) (hx : ∀ n, I lo → W (n + 1) lo)
    (hs : ∀ n i, lo ≤ i → i < i0 → I (i + 1) → (I i → W n i) → W (n + 1) (i + 1)) : ∃ n, W n i0 := by
  have key : ∀ d i, i = lo + d → i ≤ i0 → I i → W (d + 1) i := by
    intro d
    induction d with
    | zero =>
      intro i h _ hI
      have q : i = lo := by omega
      rw [q] at hI ⊢
      exact hx 0 hI
    | succ d ih =>
      intro i h h1 hI
      have q : i = (lo + d) + 1 := by omega
      rw [q] at hI ⊢
      exact hs (d + 1) (lo + d) (by omega) (by omega) hI (fun hI' => ih (lo + d) rfl (by omega) hI')
  exact ⟨i0 - lo + 1, key (i0 - lo) i0 (by omega) (Nat.le_refl _) h0⟩
/-- how many j below m have a C that isn't 0 -/
def pp_cn (C : Nat → Int32) : Nat → Nat
  | 0 => 0
  | m + 1 => if C m = 0 then pp_cn C m else pp_cn C m + 1
theorem pp_cn_z {C : Nat → Int32} {m : Nat} (h : C m = 0) : pp_cn C (m + 1) = pp_cn C m := by rw [pp_cn]; exact if_pos h
theorem pp_cn_n {C : Nat → Int32} {m : Nat} (h : ¬ C m = 0) : pp_cn C (m + 1) = pp_cn C m + 1 := by rw [pp_cn]; exact if_neg h
theorem pp_cn_le (C : Nat → Int32) : ∀ m, pp_cn C m ≤ m := by
  intro m
  induction m with
  | zero => exact Nat.le_refl _
  | succ m ih =>
    by_cases h : C m = 0
    · rw [pp_cn_z h]; omega
    · rw [pp_cn_n h]; omega
/-- t bounds lie below m -/
def pp_PS (b : Nat → Nat) (pc m t : Nat) : Prop := t ≤ pc ∧ (∀ i, i < t → b i < m) ∧ (∀ i, t ≤ i → i < pc → m ≤ b i)
theorem pp_PS_u {b : Nat → Nat} {pc m t s : Nat} (h1 : pp_PS b pc m t) (h2 : pp_PS b pc m s) : t = s := by
  obtain ⟨a1, a2, a3⟩ := h1
  obtain ⟨c1, c2, c3⟩ := h2
  rcases Nat.lt_trichotomy t s with h | h | h
  · have x := c2 t h
    have y := a3 t (Nat.le_refl _) (by omega)
    omega
  · exact h
  · have x := a2 s h
    have y := c3 s (Nat.le_refl _) (by omega)
    omega
/-- the bounds b, pc of them, rising from 0, and the flags C over the keys -/
def pp_Bd (b : Nat → Nat) (pc : Nat) (C : Nat → Int32) : Prop :=
  1 ≤ pc ∧ pc ≤ 8 ∧ b 0 = 0 ∧ (∀ i j, i < j → j < pc → b i < b j) ∧ (∀ i, i < pc → b i ≤ 255) ∧ (∀ k, k ≤ 255 → (¬ C k = 0 ↔ ∃ i, i < pc ∧ b i = k))
theorem pp_cn_PS {b : Nat → Nat} {pc : Nat} {C : Nat → Int32} (h : pp_Bd b pc C) : ∀ m, m ≤ 256 → pp_PS b pc m (pp_cn C m) := by
  obtain ⟨h1, h8, h0, hm, hb, hc⟩ := h
  intro m
  induction m with
  | zero => exact fun _ => ⟨Nat.zero_le _, fun i hi => absurd hi (Nat.not_lt_zero _), fun i _ _ => Nat.zero_le _⟩
  | succ m ih =>
    intro hm1
    obtain ⟨a1, a2, a3⟩ := ih (by omega)
    by_cases z : C m = 0
    · rw [pp_cn_z z]
      refine ⟨a1, fun i hi => Nat.lt_succ_of_lt (a2 i hi), fun i hi hp => ?_⟩
      have q := a3 i hi hp
      have ne : b i ≠ m := fun e => (hc m (by omega)).mpr ⟨i, hp, e⟩ z
      omega
    · rw [pp_cn_n z]
      obtain ⟨i, hi, e⟩ := (hc m (by omega)).mp z
      have ge : pp_cn C m ≤ i := by
        rcases Nat.lt_or_ge i (pp_cn C m) with g | g
        · have q := a2 i g
          omega
        · exact g
      have le : i ≤ pp_cn C m := by
        rcases Nat.lt_or_ge (pp_cn C m) i with g | g
        · have x := hm _ _ g hi
          have y := a3 _ (Nat.le_refl _) (Nat.lt_trans g hi)
          omega
        · exact g
      have e2 : pp_cn C m = i := by omega
      rw [e2] at a2 ⊢
      refine ⟨by omega, fun j hj => ?_, fun j hj hp => ?_⟩
      · rcases Nat.lt_or_ge j i with g | g
        · have q := a2 j g
          omega
        · have q : j = i := by omega
          rw [q]; omega
      · have q := hm i j (by omega) hp
        omega
/-- the partition of key k -/
def pp_pt (C : Nat → Int32) (k : Nat) : Nat := pp_cn C (k + 1) - 1
theorem pp_pt_s {b : Nat → Nat} {pc : Nat} {C : Nat → Int32} {k : Nat} (h : pp_Bd b pc C) (hk : k ≤ 255) : pp_cn C (k + 1) = pp_pt C k + 1 ∧ pp_pt C k < pc ∧ b (pp_pt C k) ≤ k ∧ ∀ i, pp_pt C k < i → i < pc → k < b i := by
  obtain ⟨a1, a2, a3⟩ := pp_cn_PS h (k + 1) (by omega)
  have pos : 1 ≤ pp_cn C (k + 1) := by
    rcases Nat.lt_or_ge 0 (pp_cn C (k + 1)) with g | g
    · exact g
    · have q := a3 0 g h.1
      have z := h.2.2.1
      omega
  have e : pp_cn C (k + 1) = pp_pt C k + 1 := by unfold pp_pt; omega
  rw [e] at a1 a2 a3
  refine ⟨e, by omega, ?_, fun i hi hp => ?_⟩
  · have q := a2 _ (Nat.lt_succ_self (pp_pt C k))
    omega
  · have q := a3 i (by omega) hp
    omega
theorem pp_pt_u {b : Nat → Nat} {pc : Nat} {C : Nat → Int32} {k t : Nat} (h : pp_Bd b pc C) (hk : k ≤ 255) (ht : t < pc) (h1 : b t ≤ k) (h2 : ∀ i, t < i → i < pc → k < b i) : pp_pt C k = t := by
  have g : pp_cn C (k + 1) = t + 1 := by
    refine pp_PS_u (pp_cn_PS h (k + 1) (by omega)) ⟨by omega, fun i hi => ?_, fun i hi hp => h2 i (by omega) hp⟩
    rcases Nat.lt_or_ge i t with g | g
    · have q := h.2.2.2.1 i t g ht
      omega
    · have q : i = t := by omega
      rw [q]; omega
  unfold pp_pt
  omega
theorem pp_cn_256 {b : Nat → Nat} {pc : Nat} {C : Nat → Int32} (h : pp_Bd b pc C) : pp_cn C 256 = pc :=
  pp_PS_u (pp_cn_PS h 256 (Nat.le_refl _)) ⟨Nat.le_refl _, fun i hi => by have q := h.2.2.2.2.1 i hi; omega, fun i a c => absurd c (by omega)⟩
theorem pp_cn_b {b : Nat → Nat} {pc : Nat} {C : Nat → Int32} {i : Nat} (h : pp_Bd b pc C) (hi : i < pc) : pp_cn C (b i) = i := by
  refine pp_PS_u (pp_cn_PS h (b i) (by have q := h.2.2.2.2.1 i hi; omega)) ⟨by omega, fun j hj => h.2.2.2.1 j i hj hi, fun j a c => ?_⟩
  rcases Nat.lt_or_ge i j with g | g
  · have q := h.2.2.2.1 i j g c
    omega
  · have q : j = i := by omega
    rw [q]; exact Nat.le_refl _
theorem pp_cn_k {b : Nat → Nat} {pc : Nat} {C : Nat → Int32} {k : Nat} (h : pp_Bd b pc C) (hk : k ≤ 255) (z : ¬ C k = 0) : pp_cn C k < pc ∧ b (pp_cn C k) = k := by
  obtain ⟨i, hi, e⟩ := (h.2.2.2.2.2 k hk).mp z
  have q := pp_cn_b h hi
  rw [e] at q
  rw [q]
  exact ⟨hi, e⟩
theorem pp_C_b {b : Nat → Nat} {pc : Nat} {C : Nat → Int32} {i : Nat} (h : pp_Bd b pc C) (hi : i < pc) : ¬ C (b i) = 0 :=
  (h.2.2.2.2.2 _ (h.2.2.2.2.1 i hi)).mpr ⟨i, hi, rfl⟩
theorem pp_C_pt {b : Nat → Nat} {pc : Nat} {C : Nat → Int32} {k : Nat} (h : pp_Bd b pc C) (hk : k ≤ 255) : ¬ C k = 0 ↔ b (pp_pt C k) = k := by
  obtain ⟨e, t1, t2, t3⟩ := pp_pt_s h hk
  constructor
  · intro z
    obtain ⟨i, hi, ei⟩ := (h.2.2.2.2.2 k hk).mp z
    rcases Nat.lt_trichotomy (pp_pt C k) i with g | g | g
    · have q := t3 i g hi
      omega
    · rw [g]; exact ei
    · have q := h.2.2.2.1 i _ g t1
      omega
  · exact fun q => (h.2.2.2.2.2 k hk).mpr ⟨_, t1, q⟩
