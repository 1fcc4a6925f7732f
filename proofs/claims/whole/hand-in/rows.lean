section
theorem pk_us {f : Nat → Int32} {k : Nat} {x : Int32} : upd f k x k = x := if_pos rfl
theorem pk_un {f : Nat → Int32} {k j : Nat} {x : Int32} (h : j ≠ k) : upd f k x j = f j := if_neg h
theorem pk_sub {a b : Nat} (h : b ≤ a) : nI a - nI b = nI (a - b) := by
  obtain ⟨c, rfl⟩ : ∃ c, a = c + b := ⟨a - b, by omega⟩
  rw [← nI_add, Int32.add_sub_cancel, Nat.add_sub_cancel]
theorem pk_m1 (n : Nat) : nI (n + 1) + (-1) = nI n := by
  rw [← nI_1, Int32.add_assoc, show (1 : Int32) + (-1) = 0 from rfl, Int32.add_zero]
theorem pk_ix (x : Int32) {n : Nat} (hn : n < 2 ^ 31) : x < 0 ∨ nI n ≤ x ∨ ∃ j : Nat, j < n ∧ x = nI j := by
  by_cases h : x < 0
  · exact Or.inl h
  · obtain ⟨j, hj, rfl⟩ := nI_of h
    by_cases h2 : j < n
    · exact Or.inr (Or.inr ⟨j, h2, rfl⟩)
    · exact Or.inr (Or.inl (nI_le (by omega) hj))
theorem pk_le {x y : Int32} {A B : Prop} (a b : Nat) (f : a ≤ b → A) (g : b < a → B) (hx : x = nI a := by rfl) (hy : y = nI b := by rfl) (ha : a < 2 ^ 31 := by omega) (hb : b < 2 ^ 31 := by omega) : (x ≤ y → A) ∧ (¬ x ≤ y → B) := by
  subst hx hy
  rw [nI_leI ha hb]
  exact ⟨f, fun z => g (by omega)⟩
theorem pk_lt {x y : Int32} {A B : Prop} (a b : Nat) (f : a < b → A) (g : b ≤ a → B) (hx : x = nI a := by rfl) (hy : y = nI b := by rfl) (ha : a < 2 ^ 31 := by omega) (hb : b < 2 ^ 31 := by omega) : (x < y → A) ∧ (¬ x < y → B) := by
  subst hx hy
  rw [nI_ltI ha hb]
  exact ⟨f, fun z => g (by omega)⟩
theorem pk_eq {x y : Int32} {A B : Prop} (a b : Nat) (f : a = b → A) (g : a ≠ b → B) (hx : x = nI a := by rfl) (hy : y = nI b := by rfl) (ha : a < 2 ^ 31 := by omega) (hb : b < 2 ^ 31 := by omega) : (x = y → A) ∧ (¬ x = y → B) := by
  subst hx hy
  rw [nI_eq ha hb]
  exact ⟨f, g⟩
theorem pk_in {x : Int32} (n N : Nat) (h : n < N) (hx : x = nI n := by rfl) (hN : N < 2 ^ 31 := by omega) : vp_in x N := by
  subst hx
  exact vp_in_nI h hN
theorem pk_cl {x : Int32} (n : Nat) (hx : x = nI n := by rfl) (h : n < 2 ^ 31 := by omega) : x.toNatClampNeg = n := by
  subst hx
  exact nI_clamp h
theorem pp_lp (W : Nat → Nat → Prop) (I : Nat → Prop) (e i0 : Nat) (hi : i0 ≤ e) (h0 : I i0) (hx : ∀ n, I e → W (n + 1) e)
    (hs : ∀ n i, i0 ≤ i → i < e → I i → (I (i + 1) → W n (i + 1)) → W (n + 1) i) : ∃ n, W n i0 := by
  have key : ∀ d i, i0 ≤ i → i + d = e → I i → W (d + 1) i := by
    intro d
    induction d with
    | zero =>
      intro i _ h hI
      have q : i = e := by omega
      rw [q] at hI ⊢
      exact hx 0 hI
    | succ d ih =>
      intro i h1 h hI
      exact hs (d + 1) i h1 (by omega) hI (fun hI' => ih (i + 1) (by omega) (by omega) hI')
  exact ⟨e - i0 + 1, key (e - i0) i0 (Nat.le_refl _) (by omega) h0⟩
theorem pp_lpd (W : Nat → Nat → Prop) (I : Nat → Prop) (lo i0 : Nat) (hi : lo ≤ i0) (h0 : I i0) (hx : ∀ n, I lo → W (n + 1) lo)
    (hs : ∀ n i, lo ≤ i → i < i0 → I (i + 1) → (I i → W n i) → W (n + 1) (i + 1)) : ∃ n, W n i0 := by
  have key : ∀ d i, i = lo + d → i ≤ i0 → I i → W (d + 1) i := by
    intro d
    induction d with
    | zero =>
      intro i h _ hI
      have q : i = lo := by omega
      rw [q] at hI ⊢
      exact hx 0 hI
    | succ d ih =>
      intro i h h1 hI
      have q : i = (lo + d) + 1 := by omega
      rw [q] at hI ⊢
      exact hs (d + 1) (lo + d) (by omega) (by omega) hI (fun hI' => ih (lo + d) rfl (by omega) hI')
  exact ⟨i0 - lo + 1, key (i0 - lo) i0 (by omega) (Nat.le_refl _) h0⟩
/-- how many j below m have a C that isn't 0 -/
def pp_cn (C : Nat → Int32) : Nat → Nat
  | 0 => 0
  | m + 1 => if C m = 0 then pp_cn C m else pp_cn C m + 1
theorem pp_cn_z {C : Nat → Int32} {m : Nat} (h : C m = 0) : pp_cn C (m + 1) = pp_cn C m := by rw [pp_cn]; exact if_pos h
theorem pp_cn_n {C : Nat → Int32} {m : Nat} (h : ¬ C m = 0) : pp_cn C (m + 1) = pp_cn C m + 1 := by rw [pp_cn]; exact if_neg h
theorem pp_cn_le (C : Nat → Int32) : ∀ m, pp_cn C m ≤ m := by
  intro m
  induction m with
  | zero => exact Nat.le_refl _
  | succ m ih =>
    by_cases h : C m = 0
    · rw [pp_cn_z h]; omega
    · rw [pp_cn_n h]; omega
/-- t bounds lie below m -/
def pp_PS (b : Nat → Nat) (pc m t : Nat) : Prop := t ≤ pc ∧ (∀ i, i < t → b i < m) ∧ (∀ i, t ≤ i → i < pc → m ≤ b i)
theorem pp_PS_u {b : Nat → Nat} {pc m t s : Nat} (h1 : pp_PS b pc m t) (h2 : pp_PS b pc m s) : t = s := by
  obtain ⟨a1, a2, a3⟩ := h1
  obtain ⟨c1, c2, c3⟩ := h2
  rcases Nat.lt_trichotomy t s with h | h | h
  · have x := c2 t h
    have y := a3 t (Nat.le_refl _) (by omega)
    omega
  · exact h
  · have x := a2 s h
    have y := c3 s (Nat.le_refl _) (by omega)
    omega
/-- the bounds b, pc of them, rising from 0, and the flags C over the keys -/
def pp_Bd (b : Nat → Nat) (pc : Nat) (C : Nat → Int32) : Prop :=
  1 ≤ pc ∧ pc ≤ 8 ∧ b 0 = 0 ∧ (∀ i j, i < j → j < pc → b i < b j) ∧ (∀ i, i < pc → b i ≤ 255) ∧ (∀ k, k ≤ 255 → (¬ C k = 0 ↔ ∃ i, i < pc ∧ b i = k))
theorem pp_cn_PS {b : Nat → Nat} {pc : Nat} {C : Nat → Int32} (h : pp_Bd b pc C) : ∀ m, m ≤ 256 → pp_PS b pc m (pp_cn C m) := by
  obtain ⟨h1, h8, h0, hm, hb, hc⟩ := h
  intro m
  induction m with
  | zero => exact fun _ => ⟨Nat.zero_le _, fun i hi => absurd hi (Nat.not_lt_zero _), fun i _ _ => Nat.zero_le _⟩
  | succ m ih =>
    intro hm1
    obtain ⟨a1, a2, a3⟩ := ih (by omega)
    by_cases z : C m = 0
    · rw [pp_cn_z z]
      refine ⟨a1, fun i hi => Nat.lt_succ_of_lt (a2 i hi), fun i hi hp => ?_⟩
      have q := a3 i hi hp
      have ne : b i ≠ m := fun e => (hc m (by omega)).mpr ⟨i, hp, e⟩ z
      omega
    · rw [pp_cn_n z]
      obtain ⟨i, hi, e⟩ := (hc m (by omega)).mp z
      have ge : pp_cn C m ≤ i := by
        rcases Nat.lt_or_ge i (pp_cn C m) with g | g
        · have q := a2 i g
          omega
        · exact g
      have le : i ≤ pp_cn C m := by
        rcases Nat.lt_or_ge (pp_cn C m) i with g | g
        · have x := hm _ _ g hi
          have y := a3 _ (Nat.le_refl _) (Nat.lt_trans g hi)
          omega
        · exact g
      have e2 : pp_cn C m = i := by omega
      rw [e2] at a2 ⊢
      refine ⟨by omega, fun j hj => ?_, fun j hj hp => ?_⟩
      · rcases Nat.lt_or_ge j i with g | g
        · have q := a2 j g
          omega
        · have q : j = i := by omega
          rw [q]; omega
      · have q := hm i j (by omega) hp
        omega
/-- the partition of key k -/
def pp_pt (C : Nat → Int32) (k : Nat) : Nat := pp_cn C (k + 1) - 1
theorem pp_pt_s {b : Nat → Nat} {pc : Nat} {C : Nat → Int32} {k : Nat} (h : pp_Bd b pc C) (hk : k ≤ 255) : pp_cn C (k + 1) = pp_pt C k + 1 ∧ pp_pt C k < pc ∧ b (pp_pt C k) ≤ k ∧ ∀ i, pp_pt C k < i → i < pc → k < b i := by
  obtain ⟨a1, a2, a3⟩ := pp_cn_PS h (k + 1) (by omega)
  have pos : 1 ≤ pp_cn C (k + 1) := by
    rcases Nat.lt_or_ge 0 (pp_cn C (k + 1)) with g | g
    · exact g
    · have q := a3 0 g h.1
      have z := h.2.2.1
      omega
  have e : pp_cn C (k + 1) = pp_pt C k + 1 := by unfold pp_pt; omega
  rw [e] at a1 a2 a3
  refine ⟨e, by omega, ?_, fun i hi hp => ?_⟩
  · have q := a2 _ (Nat.lt_succ_self (pp_pt C k))
    omega
  · have q := a3 i (by omega) hp
    omega
theorem pp_pt_u {b : Nat → Nat} {pc : Nat} {C : Nat → Int32} {k t : Nat} (h : pp_Bd b pc C) (hk : k ≤ 255) (ht : t < pc) (h1 : b t ≤ k) (h2 : ∀ i, t < i → i < pc → k < b i) : pp_pt C k = t := by
  have g : pp_cn C (k + 1) = t + 1 := by
    refine pp_PS_u (pp_cn_PS h (k + 1) (by omega)) ⟨by omega, fun i hi => ?_, fun i hi hp => h2 i (by omega) hp⟩
    rcases Nat.lt_or_ge i t with g | g
    · have q := h.2.2.2.1 i t g ht
      omega
    · have q : i = t := by omega
      rw [q]; omega
  unfold pp_pt
  omega
theorem pp_cn_256 {b : Nat → Nat} {pc : Nat} {C : Nat → Int32} (h : pp_Bd b pc C) : pp_cn C 256 = pc :=
  pp_PS_u (pp_cn_PS h 256 (Nat.le_refl _)) ⟨Nat.le_refl _, fun i hi => by have q := h.2.2.2.2.1 i hi; omega, fun i a c => absurd c (by omega)⟩
theorem pp_cn_b {b : Nat → Nat} {pc : Nat} {C : Nat → Int32} {i : Nat} (h : pp_Bd b pc C) (hi : i < pc) : pp_cn C (b i) = i := by
  refine pp_PS_u (pp_cn_PS h (b i) (by have q := h.2.2.2.2.1 i hi; omega)) ⟨by omega, fun j hj => h.2.2.2.1 j i hj hi, fun j a c => ?_⟩
  rcases Nat.lt_or_ge i j with g | g
  · have q := h.2.2.2.1 i j g c
    omega
  · have q : j = i := by omega
    rw [q]; exact Nat.le_refl _
theorem pp_cn_k {b : Nat → Nat} {pc : Nat} {C : Nat → Int32} {k : Nat} (h : pp_Bd b pc C) (hk : k ≤ 255) (z : ¬ C k = 0) : pp_cn C k < pc ∧ b (pp_cn C k) = k := by
  obtain ⟨i, hi, e⟩ := (h.2.2.2.2.2 k hk).mp z
  have q := pp_cn_b h hi
  rw [e] at q
  rw [q]
  exact ⟨hi, e⟩
theorem pp_C_b {b : Nat → Nat} {pc : Nat} {C : Nat → Int32} {i : Nat} (h : pp_Bd b pc C) (hi : i < pc) : ¬ C (b i) = 0 :=
  (h.2.2.2.2.2 _ (h.2.2.2.2.1 i hi)).mpr ⟨i, hi, rfl⟩
theorem pp_C_pt {b : Nat → Nat} {pc : Nat} {C : Nat → Int32} {k : Nat} (h : pp_Bd b pc C) (hk : k ≤ 255) : ¬ C k = 0 ↔ b (pp_pt C k) = k := by
  obtain ⟨e, t1, t2, t3⟩ := pp_pt_s h hk
  constructor
  · intro z
    obtain ⟨i, hi, ei⟩ := (h.2.2.2.2.2 k hk).mp z
    rcases Nat.lt_trichotomy (pp_pt C k) i with g | g | g
    · have q := t3 i g hi
      omega
    · rw [g]; exact ei
    · have q := h.2.2.2.1 i _ g t1
      omega
  · exact fun q => (h.2.2.2.2.2 k hk).mpr ⟨_, t1, q⟩
end
section
/-- the bounds with k put in behind the t-th -/
def pp_b1 (b : Nat → Nat) (t k : Nat) : Nat → Nat := fun j => if j ≤ t then b j else if j = t + 1 then k else b (j - 1)
theorem pp_b1_lo {b : Nat → Nat} {t k j : Nat} (h : j ≤ t) : pp_b1 b t k j = b j := if_pos h
theorem pp_b1_eq {b : Nat → Nat} {t k : Nat} : pp_b1 b t k (t + 1) = k := by
  unfold pp_b1
  rw [if_neg (by omega), if_pos rfl]
theorem pp_b1_hi {b : Nat → Nat} {t k j : Nat} (h : t + 1 < j) : pp_b1 b t k j = b (j - 1) := by
  unfold pp_b1
  rw [if_neg (by omega), if_neg (by omega)]
theorem pp_split {b : Nat → Nat} {pc : Nat} {C : Nat → Int32} {k t : Nat} {x : Int32} (h : pp_Bd b pc C) (h8 : pc < 8) (hk : k ≤ 255) (hx : ¬ x = 0) (ht : t < pc) (h1 : b t < k) (h2 : ∀ i, t < i → i < pc → k < b i) :
    pp_Bd (pp_b1 b t k) (pc + 1) (upd C k x) := by
  obtain ⟨g1, g8, g0, gm, gb, gc⟩ := h
  have le : ∀ i, i ≤ t → b i ≤ b t := by
    intro i hi
    rcases Nat.lt_or_ge i t with g | g
    · have q := gm i t g ht
      omega
    · have q : i = t := by omega
      rw [q]; exact Nat.le_refl _
  refine ⟨by omega, by omega, ?_, ?_, ?_, ?_⟩
  · rw [pp_b1_lo (Nat.zero_le _)]; exact g0
  · intro i j hij hj
    rcases Nat.lt_trichotomy j (t + 1) with a | a | a
    · rw [pp_b1_lo (by omega), pp_b1_lo (by omega)]
      exact gm i j hij (by omega)
    · rw [a, pp_b1_eq, pp_b1_lo (by omega)]
      have q := le i (by omega)
      omega
    · rw [pp_b1_hi (j := j) a]
      have kj := h2 (j - 1) (by omega) (by omega)
      rcases Nat.lt_trichotomy i (t + 1) with c | c | c
      · rw [pp_b1_lo (by omega)]
        have q := le i (by omega)
        omega
      · rw [c, pp_b1_eq]; exact kj
      · rw [pp_b1_hi c]
        exact gm (i - 1) (j - 1) (by omega) (by omega)
  · intro i hi
    rcases Nat.lt_trichotomy i (t + 1) with c | c | c
    · rw [pp_b1_lo (by omega)]
      exact gb i (by omega)
    · rw [c, pp_b1_eq]; exact hk
    · rw [pp_b1_hi c]
      exact gb (i - 1) (by omega)
  · intro q hq
    by_cases e : q = k
    · rw [e, pk_us]
      exact ⟨fun _ => ⟨t + 1, by omega, pp_b1_eq⟩, fun _ => hx⟩
    · rw [pk_un e]
      refine (gc q hq).trans ⟨fun w => ?_, fun w => ?_⟩
      · obtain ⟨i, hi, ei⟩ := w
        rcases Nat.lt_or_ge t i with c | c
        · refine ⟨i + 1, by omega, ?_⟩
          rw [pp_b1_hi (by omega), Nat.add_sub_cancel]; exact ei
        · refine ⟨i, by omega, ?_⟩
          rw [pp_b1_lo c]; exact ei
      · obtain ⟨i, hi, ei⟩ := w
        rcases Nat.lt_trichotomy i (t + 1) with c | c | c
        · rw [pp_b1_lo (by omega)] at ei
          exact ⟨i, by omega, ei⟩
        · rw [c, pp_b1_eq] at ei
          exact absurd ei.symm e
        · rw [pp_b1_hi c] at ei
          exact ⟨i - 1, by omega, ei⟩
theorem pp_split_pt {b : Nat → Nat} {pc : Nat} {C : Nat → Int32} {k t : Nat} {x : Int32} (h : pp_Bd b pc C) (h8 : pc < 8) (hk : k ≤ 255) (hx : ¬ x = 0) (ht : t < pc) (h1 : b t < k) (h2 : ∀ i, t < i → i < pc → k < b i) :
    pp_pt (upd C k x) k = t + 1 := by
  refine pp_pt_u (pp_split h h8 hk hx ht h1 h2) hk (by omega) (by rw [pp_b1_eq]; exact Nat.le_refl _) (fun i hi hp => ?_)
  rw [pp_b1_hi hi]
  exact h2 (i - 1) (by omega) (by omega)
/-- the bounds without the one behind the i-th -/
def pp_b2 (b : Nat → Nat) (i : Nat) : Nat → Nat := fun j => if j ≤ i then b j else b (j + 1)
theorem pp_b2_lo {b : Nat → Nat} {i j : Nat} (h : j ≤ i) : pp_b2 b i j = b j := if_pos h
theorem pp_b2_hi {b : Nat → Nat} {i j : Nat} (h : i < j) : pp_b2 b i j = b (j + 1) := if_neg (by omega)
theorem pp_merge {b : Nat → Nat} {pc : Nat} {C : Nat → Int32} {i : Nat} (h : pp_Bd b pc C) (hi : i + 1 < pc) : pp_Bd (pp_b2 b i) (pc - 1) (upd C (b (i + 1)) 0) := by
  obtain ⟨g1, g8, g0, gm, gb, gc⟩ := h
  refine ⟨by omega, by omega, ?_, ?_, ?_, ?_⟩
  · rw [pp_b2_lo (Nat.zero_le _)]; exact g0
  · intro p q hpq hq
    rcases Nat.lt_or_ge i q with c | c
    · rw [pp_b2_hi c]
      rcases Nat.lt_or_ge i p with d | d
      · rw [pp_b2_hi d]; exact gm _ _ (by omega) (by omega)
      · rw [pp_b2_lo d]; exact gm _ _ (by omega) (by omega)
    · rw [pp_b2_lo c, pp_b2_lo (by omega)]; exact gm _ _ hpq (by omega)
  · intro p hp
    rcases Nat.lt_or_ge i p with d | d
    · rw [pp_b2_hi d]; exact gb _ (by omega)
    · rw [pp_b2_lo d]; exact gb _ (by omega)
  · intro q hq
    by_cases e : q = b (i + 1)
    · rw [e, pk_us]
      refine ⟨fun w => absurd rfl w, fun w => ?_⟩
      obtain ⟨j, hj, ej⟩ := w
      rcases Nat.lt_or_ge i j with d | d
      · rw [pp_b2_hi d] at ej
        have z := gm (i + 1) (j + 1) (by omega) (by omega)
        omega
      · rw [pp_b2_lo d] at ej
        have z := gm j (i + 1) (by omega) (by omega)
        omega
    · rw [pk_un e]
      refine (gc q hq).trans ⟨fun w => ?_, fun w => ?_⟩
      · obtain ⟨j, hj, ej⟩ := w
        rcases Nat.lt_trichotomy j (i + 1) with d | d | d
        · exact ⟨j, by omega, by rw [pp_b2_lo (by omega)]; exact ej⟩
        · rw [d] at ej
          exact absurd ej.symm e
        · refine ⟨j - 1, by omega, ?_⟩
          rw [pp_b2_hi (by omega), Nat.sub_add_cancel (by omega)]; exact ej
      · obtain ⟨j, hj, ej⟩ := w
        rcases Nat.lt_or_ge i j with d | d
        · rw [pp_b2_hi d] at ej
          exact ⟨j + 1, by omega, ej⟩
        · rw [pp_b2_lo d] at ej
          exact ⟨j, by omega, ej⟩
/-- split's shift, done down to i -/
def pp_sh (B : Nat → Int32) (i pc : Nat) : Nat → Int32 := fun j => if i < j ∧ j ≤ pc then B (j - 1) else B j
theorem pp_sh_n {B : Nat → Int32} {i pc j : Nat} (h : ¬ (i < j ∧ j ≤ pc)) : pp_sh B i pc j = B j := if_neg h
theorem pp_sh_y {B : Nat → Int32} {i pc j : Nat} (h : i < j ∧ j ≤ pc) : pp_sh B i pc j = B (j - 1) := if_pos h
theorem pp_sh_0 (B : Nat → Int32) (pc : Nat) : pp_sh B pc pc = B := by
  funext j
  exact pp_sh_n (by omega)
theorem pp_sh_s {B : Nat → Int32} {i pc : Nat} (h : i + 1 ≤ pc) : upd (pp_sh B (i + 1) pc) (i + 1) (pp_sh B (i + 1) pc i) = pp_sh B i pc := by
  funext j
  by_cases e : j = i + 1
  · rw [e, pk_us, pp_sh_n (by omega), pp_sh_y (by omega), Nat.add_sub_cancel]
  · rw [pk_un e]
    by_cases c : i < j ∧ j ≤ pc
    · rw [pp_sh_y c, pp_sh_y (by omega)]
    · rw [pp_sh_n c, pp_sh_n (by omega)]
theorem pp_sh_e {B : Nat → Int32} {b : Nat → Nat} {t pc k : Nat} (h : ∀ i, i < pc → B i = nI (b i)) (ht : t < pc) : ∀ j, j < pc + 1 → upd (pp_sh B (t + 1) pc) (t + 1) (nI k) j = nI (pp_b1 b t k j) := by
  intro j hj
  rcases Nat.lt_trichotomy j (t + 1) with c | c | c
  · rw [pk_un (by omega), pp_sh_n (by omega), pp_b1_lo (by omega)]
    exact h j (by omega)
  · rw [c, pk_us, pp_b1_eq]
  · rw [pk_un (by omega), pp_sh_y (by omega), pp_b1_hi c]
    exact h (j - 1) (by omega)
/-- merge's shift, done from a up to j -/
def pp_sl (B : Nat → Int32) (a j : Nat) : Nat → Int32 := fun q => if a ≤ q ∧ q < j then B (q + 1) else B q
theorem pp_sl_n {B : Nat → Int32} {a j q : Nat} (h : ¬ (a ≤ q ∧ q < j)) : pp_sl B a j q = B q := if_neg h
theorem pp_sl_y {B : Nat → Int32} {a j q : Nat} (h : a ≤ q ∧ q < j) : pp_sl B a j q = B (q + 1) := if_pos h
theorem pp_sl_0 (B : Nat → Int32) (a : Nat) : pp_sl B a a = B := by
  funext q
  exact pp_sl_n (by omega)
theorem pp_sl_s {B : Nat → Int32} {a j : Nat} (h : a ≤ j) : upd (pp_sl B a j) j (pp_sl B a j (j + 1)) = pp_sl B a (j + 1) := by
  funext q
  by_cases e : q = j
  · rw [e, pk_us, pp_sl_n (by omega), pp_sl_y (by omega)]
  · rw [pk_un e]
    by_cases c : a ≤ q ∧ q < j
    · rw [pp_sl_y c, pp_sl_y (by omega)]
    · rw [pp_sl_n c, pp_sl_n (by omega)]
theorem pp_sl_e {B : Nat → Int32} {b : Nat → Nat} {i pc : Nat} (h : ∀ i, i < pc → B i = nI (b i)) (hi : i + 1 < pc) : ∀ q, q < pc - 1 → pp_sl B (i + 1) (pc - 1) q = nI (pp_b2 b i q) := by
  intro q hq
  rcases Nat.lt_or_ge i q with c | c
  · rw [pp_sl_y (by omega), pp_b2_hi c]
    exact h (q + 1) (by omega)
  · rw [pp_sl_n (by omega), pp_b2_lo c]
    exact h q (by omega)
end
section
def pp_ct (P : Nat → Bool) : Nat → Nat
  | 0 => 0
  | m + 1 => if P m = true then pp_ct P m + 1 else pp_ct P m
theorem pp_ct_y {P : Nat → Bool} {m : Nat} (h : P m = true) : pp_ct P (m + 1) = pp_ct P m + 1 := by rw [pp_ct]; exact if_pos h
theorem pp_ct_n {P : Nat → Bool} {m : Nat} (h : ¬ P m = true) : pp_ct P (m + 1) = pp_ct P m := by rw [pp_ct]; exact if_neg h
theorem pp_ct_le (P : Nat → Bool) : ∀ m, pp_ct P m ≤ m := by
  intro m
  induction m with
  | zero => exact Nat.le_refl _
  | succ m ih =>
    by_cases h : P m = true
    · rw [pp_ct_y h]; omega
    · rw [pp_ct_n h]; omega
theorem pp_ct_eq {P Q : Nat → Bool} : ∀ m, (∀ j, j < m → P j = Q j) → pp_ct P m = pp_ct Q m := by
  intro m
  induction m with
  | zero => exact fun _ => rfl
  | succ m ih =>
    intro h
    have e := ih (fun j hj => h j (by omega))
    have g := h m (by omega)
    rw [pp_ct, pp_ct, e, g]
theorem pp_ct_0 {P : Nat → Bool} : ∀ m, (∀ j, j < m → P j = false) → pp_ct P m = 0 := by
  intro m
  induction m with
  | zero => exact fun _ => rfl
  | succ m ih =>
    intro h
    rw [pp_ct_n (by rw [h m (by omega)]; decide)]
    exact ih (fun j hj => h j (by omega))
theorem pp_ct_up {P : Nat → Bool} {m : Nat} : ∀ d, (∀ j, m ≤ j → P j = false) → pp_ct P (m + d) = pp_ct P m := by
  intro d h
  induction d with
  | zero => rfl
  | succ d ih =>
    rw [← Nat.add_assoc, pp_ct_n (by rw [h (m + d) (by omega)]; decide)]
    exact ih
def pp_any (P : Nat → Bool) : Nat → Bool
  | 0 => false
  | m + 1 => pp_any P m || P m
theorem pp_any_y {P : Nat → Bool} {m : Nat} (h : P m = true) : pp_any P (m + 1) = true := by
  rw [pp_any, h, Bool.or_true]
theorem pp_any_n {P : Nat → Bool} {m : Nat} (h : ¬ P m = true) : pp_any P (m + 1) = pp_any P m := by
  rw [pp_any, Bool.eq_false_iff.mpr h, Bool.or_false]
theorem pp_any_t {P : Nat → Bool} {j : Nat} : ∀ m, j < m → P j = true → pp_any P m = true := by
  intro m
  induction m with
  | zero => exact fun h => absurd h (Nat.not_lt_zero _)
  | succ m ih =>
    intro hj h
    by_cases e : j = m
    · rw [e] at h
      exact pp_any_y h
    · rw [pp_any, ih (by omega) h, Bool.true_or]
theorem pp_any_f {P : Nat → Bool} : ∀ m, (∀ j, j < m → ¬ P j = true) → pp_any P m = false := by
  intro m
  induction m with
  | zero => exact fun _ => rfl
  | succ m ih =>
    intro h
    rw [pp_any_n (h m (by omega))]
    exact ih (fun j hj => h j (by omega))
def pp_su (F : Nat → Bool) (V : Nat → Int32) : Nat → Int32
  | 0 => 0
  | m + 1 => if F m = true then pp_su F V m + V m else pp_su F V m
theorem pp_su_y {F : Nat → Bool} {V : Nat → Int32} {m : Nat} (h : F m = true) : pp_su F V (m + 1) = pp_su F V m + V m := by rw [pp_su]; exact if_pos h
theorem pp_su_n {F : Nat → Bool} {V : Nat → Int32} {m : Nat} (h : ¬ F m = true) : pp_su F V (m + 1) = pp_su F V m := by rw [pp_su]; exact if_neg h
def pp_sm (f : Nat → Nat) : Nat → Nat
  | 0 => 0
  | m + 1 => pp_sm f m + f m
theorem pp_sm_eq {f g : Nat → Nat} : ∀ m, (∀ j, j < m → f j = g j) → pp_sm f m = pp_sm g m := by
  intro m
  induction m with
  | zero => exact fun _ => rfl
  | succ m ih =>
    intro h
    rw [pp_sm, pp_sm, ih (fun j hj => h j (by omega)), h m (by omega)]
theorem pp_sm_add (f g : Nat → Nat) : ∀ m, pp_sm (fun j => f j + g j) m = pp_sm f m + pp_sm g m := by
  intro m
  induction m with
  | zero => rfl
  | succ m ih =>
    rw [pp_sm, pp_sm, pp_sm, ih]
    omega
theorem pp_sm_ct (P : Nat → Bool) : ∀ m, pp_sm (fun j => if P j = true then 1 else 0) m = pp_ct P m := by
  intro m
  induction m with
  | zero => rfl
  | succ m ih =>
    rw [pp_sm, ih]
    by_cases h : P m = true
    · rw [pp_ct_y h]
      show pp_ct P m + (if P m = true then 1 else 0) = _
      rw [if_pos h]
    · rw [pp_ct_n h]
      show pp_ct P m + (if P m = true then 1 else 0) = _
      rw [if_neg h, Nat.add_zero]
/-- pairs counted from their lower id, or from their upper -/
theorem pp_pairs (P : Nat → Nat → Bool) : ∀ m, pp_sm (fun x => pp_ct (fun y => decide (x < y) && P x y) m) m = pp_sm (fun y => pp_ct (fun x => P x y) y) m := by
  intro m
  induction m with
  | zero => rfl
  | succ m ih =>
    have e1 : ∀ x, x < m → pp_ct (fun y => decide (x < y) && P x y) (m + 1) = pp_ct (fun y => decide (x < y) && P x y) m + (if P x m = true then 1 else 0) := by
      intro x hx
      by_cases h : P x m = true
      · rw [if_pos h]
        exact pp_ct_y (P := fun y => decide (x < y) && P x y) (by show (decide (x < m) && P x m) = true; simp [h, hx])
      · rw [if_neg h]
        exact pp_ct_n (P := fun y => decide (x < y) && P x y) (by show ¬ (decide (x < m) && P x m) = true; simp [h])
    have e2 : pp_ct (fun y => decide (m < y) && P m y) (m + 1) = 0 := by
      refine pp_ct_0 (m + 1) (fun j hj => ?_)
      show (decide (m < j) && P m j) = false
      have q : ¬ m < j := by omega
      simp [q]
    have e3 : pp_sm (fun x => if P x m = true then 1 else 0) m = pp_ct (fun x => P x m) m := pp_sm_ct (fun x => P x m) m
    rw [pp_sm, e2, pp_sm_eq m e1, pp_sm_add, ih, e3, pp_sm, Nat.add_zero]
/-- truncate's store, done below m -/
def pp_tr (H : Nat → Int32) (P : Nat → Bool) (m : Nat) : Nat → Int32 := fun j => if j < m ∧ P j = true then 0 else H j
theorem pp_tr_0 (H : Nat → Int32) (P : Nat → Bool) : pp_tr H P 0 = H := by
  funext j
  exact if_neg (fun w => absurd w.1 (Nat.not_lt_zero _))
theorem pp_tr_m {H : Nat → Int32} {P : Nat → Bool} {m : Nat} : pp_tr H P m m = H m := if_neg (fun w => absurd w.1 (Nat.lt_irrefl _))
theorem pp_tr_y {H : Nat → Int32} {P : Nat → Bool} {m : Nat} (h : P m = true) : upd (pp_tr H P m) m 0 = pp_tr H P (m + 1) := by
  funext j
  by_cases e : j = m
  · rw [e, pk_us]
    exact (if_pos ⟨Nat.lt_succ_self m, h⟩).symm
  · rw [pk_un e]
    unfold pp_tr
    by_cases c : j < m ∧ P j = true
    · rw [if_pos c, if_pos ⟨by omega, c.2⟩]
    · rw [if_neg c, if_neg (fun w => c ⟨by omega, w.2⟩)]
theorem pp_tr_n {H : Nat → Int32} {P : Nat → Bool} {m : Nat} (h : ¬ P m = true) : pp_tr H P (m + 1) = pp_tr H P m := by
  funext j
  unfold pp_tr
  by_cases e : j = m
  · rw [e, if_neg (fun w => h w.2), if_neg (fun w => h w.2)]
  · by_cases c : j < m ∧ P j = true
    · rw [if_pos c, if_pos ⟨by omega, c.2⟩]
    · rw [if_neg c, if_neg (fun w => c ⟨by omega, w.2⟩)]
end
section
def pp_i (b : Bool) : Int32 := if b = true then 1 else 0
theorem pp_i_t {b : Bool} (h : b = true) : pp_i b = 1 := if_pos h
theorem pp_i_f {b : Bool} (h : ¬ b = true) : pp_i b = 0 := if_neg h
theorem pp_br {b : Bool} {A B : Prop} (f : b = true → B) (g : ¬ b = true → A) : (pp_i b = 0 → A) ∧ (¬ pp_i b = 0 → B) := by
  by_cases h : b = true
  · rw [pp_i_t h]; exact br_f (by decide) (f h)
  · rw [pp_i_f h]; exact br_t rfl (g h)
theorem pp_nb (b : Bool) : narrow .boolean (.int (pp_i b)) = .int (pp_i b) := by
  cases b <;> rfl
theorem pp_v1 : vp_nar .boolean 1 = 1 := rfl
theorem pp_v0 : vp_nar .boolean 0 = 0 := rfl
theorem pp_40 : nI 40 = 40 := by decide +kernel
theorem pp_256 : nI 256 = 256 := by decide +kernel
theorem pp_255 : nI 255 = 255 := by decide +kernel
theorem pp_8 : nI 8 = 8 := by decide +kernel
theorem pp_4 : nI 4 = 4 := by decide +kernel
theorem pp_39 : nI 39 = 39 := by decide +kernel
/-- term t holds for a row of key x and value y -/
def pp_tm (L G E : Nat → Int32) (x y : Int32) (t : Nat) : Bool := decide (L t ≤ x) && (decide (x ≤ G t) && decide (E t ≤ y))
theorem pp_tm_t {L G E : Nat → Int32} {x y : Int32} {t : Nat} (a : L t ≤ x) (b : x ≤ G t) (c : E t ≤ y) : pp_tm L G E x y t = true := by
  unfold pp_tm
  rw [decide_eq_true a, decide_eq_true b, decide_eq_true c]
  decide
theorem pp_tm_e {L G E : Nat → Int32} {x y : Int32} {t : Nat} (h : pp_tm L G E x y t = true) : L t ≤ x ∧ x ≤ G t ∧ E t ≤ y := by
  unfold pp_tm at h
  rw [Bool.and_eq_true, Bool.and_eq_true] at h
  exact ⟨of_decide_eq_true h.1, of_decide_eq_true h.2.1, of_decide_eq_true h.2.2⟩
def pp_st (L G E : Nat → Int32) (tc : Nat) (x y : Int32) : Bool := pp_any (pp_tm L G E x y) tc
/-- row id fulfils the terms -/
def pp_fit (H K V L G E : Nat → Int32) (tc : Nat) (id : Nat) : Bool := decide (¬ H id = 0) && pp_st L G E tc (K id) (V id)
theorem pp_fit_n {H K V L G E : Nat → Int32} {tc id : Nat} (h : H id = 0) : pp_fit H K V L G E tc id = false := by
  unfold pp_fit
  rw [decide_eq_false (fun w => w h), Bool.false_and]
theorem pp_fit_y {H K V L G E : Nat → Int32} {tc id : Nat} (h : ¬ H id = 0) : pp_fit H K V L G E tc id = pp_st L G E tc (K id) (V id) := by
  unfold pp_fit
  rw [decide_eq_true h, Bool.true_and]
/-- row id lies in partition i -/
def pp_ps (H K C : Nat → Int32) (i id : Nat) : Bool := decide (¬ H id = 0) && decide (pp_pt C (K id).toNatClampNeg = i)
theorem pp_ps_n {H K C : Nat → Int32} {i id : Nat} (h : H id = 0) : pp_ps H K C i id = false := by
  unfold pp_ps
  rw [decide_eq_false (fun w => w h), Bool.false_and]
theorem pp_ps_y {H K C : Nat → Int32} {i id : Nat} (h : ¬ H id = 0) : pp_ps H K C i id = decide (pp_pt C (K id).toNatClampNeg = i) := by
  unfold pp_ps
  rw [decide_eq_true h, Bool.true_and]
theorem pp_ps_h {H K C : Nat → Int32} {i id : Nat} (h : pp_ps H K C i id = true) : ¬ H id = 0 ∧ pp_pt C (K id).toNatClampNeg = i := by
  unfold pp_ps at h
  rw [Bool.and_eq_true] at h
  exact ⟨of_decide_eq_true h.1, of_decide_eq_true h.2⟩
theorem pp_fit_h {H K V L G E : Nat → Int32} {tc id : Nat} (h : pp_fit H K V L G E tc id = true) : ¬ H id = 0 := by
  unfold pp_fit at h
  rw [Bool.and_eq_true] at h
  exact of_decide_eq_true h.1
/-- o comes before id -/
def pp_cb (K : Nat → Int32) (id o : Nat) : Bool := decide (K o < K id) || (decide (K o = K id) && decide (o < id))
/-- pairs by the upper id, as the component counts them -/
theorem pp_prX (K : Nat → Int32) (F : Nat → Bool) (m : Nat) : pp_sm (fun y => if F y = true then pp_ct (fun x => decide (K x = K y) && F x) y else 0) m = pp_sm (fun y => pp_ct (fun x => decide (K x = K y) && (F x && F y)) y) m := by
  refine pp_sm_eq m (fun y _ => ?_)
  show (if F y = true then pp_ct (fun x => decide (K x = K y) && F x) y else 0) = pp_ct (fun x => decide (K x = K y) && (F x && F y)) y
  by_cases h : F y = true
  · rw [if_pos h]
    refine pp_ct_eq y (fun x _ => ?_)
    show (decide (K x = K y) && F x) = (decide (K x = K y) && (F x && F y))
    rw [h, Bool.and_true]
  · rw [if_neg h]
    refine (pp_ct_0 y (fun x _ => ?_)).symm
    show (decide (K x = K y) && (F x && F y)) = false
    rw [Bool.eq_false_iff.mpr h, Bool.and_false, Bool.and_false]
theorem pp_prs (K : Nat → Int32) (F : Nat → Bool) (m : Nat) : pp_sm (fun y => if F y = true then pp_ct (fun x => decide (K x = K y) && F x) y else 0) m = pp_sm (fun x => pp_ct (fun y => decide (x < y) && (decide (K x = K y) && (F x && F y))) m) m :=
  (pp_prX K F m).trans (pp_pairs (fun x y => decide (K x = K y) && (F x && F y)) m).symm
/-- the keys' range -/
def pp_KR (K : Nat → Int32) : Prop := ∀ id, id < 40 → ∃ q, q ≤ 255 ∧ K id = nI q
theorem pp_KR_u {K : Nat → Int32} {j q : Nat} (h : pp_KR K) (hq : q ≤ 255) : pp_KR (upd K j (nI q)) := by
  intro id hid
  by_cases e : id = j
  · exact ⟨q, hq, by rw [e, pk_us]⟩
  · rw [pk_un e]; exact h id hid
/-- what ties the two states -/
def pp_J (K B C : Nat → Int32) (b : Nat → Nat) (pc tc : Nat) : Prop := pp_Bd b pc C ∧ (∀ i, i < pc → B i = nI (b i)) ∧ tc ≤ 4 ∧ pp_KR K
end
section
theorem pp_cls (x : Int32) (n : Nat) : x < 0 ∨ (∃ j, n ≤ j ∧ j < 2 ^ 31 ∧ x = nI j) ∨ (∃ j, j < n ∧ j < 2 ^ 31 ∧ x = nI j) := by
  by_cases h : x < 0
  · exact Or.inl h
  · obtain ⟨j, hj, rfl⟩ := nI_of h
    rcases Nat.lt_or_ge j n with g | g
    · exact Or.inr (Or.inr ⟨j, g, hj, rfl⟩)
    · exact Or.inr (Or.inl ⟨j, g, hj, rfl⟩)
theorem pp_first (Q : Nat → Prop) : ∀ m, ∃ f, f ≤ m ∧ (∀ j, j < f → ¬ Q j) ∧ (f < m → Q f) := by
  intro m
  induction m with
  | zero => exact ⟨0, Nat.le_refl _, fun j hj => absurd hj (Nat.not_lt_zero _), fun h => absurd h (Nat.not_lt_zero _)⟩
  | succ m ih =>
    obtain ⟨f, h1, h2, h3⟩ := ih
    rcases Nat.lt_or_ge f m with g | g
    · exact ⟨f, by omega, h2, fun _ => h3 g⟩
    · have e : f = m := by omega
      rw [e] at h2
      by_cases q : Q m
      · exact ⟨m, by omega, h2, fun _ => q⟩
      · refine ⟨m + 1, by omega, fun j hj => ?_, fun h => absurd h (Nat.lt_irrefl _)⟩
        rcases Nat.lt_or_ge j m with g2 | g2
        · exact h2 j g2
        · have e2 : j = m := by omega
          rw [e2]; exact q
theorem pp_dn {x : Int32} (h : x = 0) : ¬ decide (¬ x = 0) = true := by simp [h]
theorem pp_dy {x : Int32} (h : ¬ x = 0) : decide (¬ x = 0) = true := by simp [h]
section
variable {p t : Int32} {H K V B L G E C : Nat → Int32} {b : Nat → Nat} {pc tc : Nat} {post : Int32 → Prop}
theorem pp_xKey_t {q : Nat} (hq : q < 256) (hp : post 1) : wpX_isKey post (p, t, H, K, V, B, L, G, E) (nI q) := by
  unfold wpX_isKey
  exact br_f (nI_pos (by omega)) (pk_lt 255 q (fun h => absurd h (by omega)) (fun _ => hp))
theorem pp_xKey_f {x : Int32} (h : ¬ ∃ q, q < 256 ∧ x = nI q) (hp : post 0) : wpX_isKey post (p, t, H, K, V, B, L, G, E) x := by
  unfold wpX_isKey
  rcases pp_cls x 256 with a | ⟨j, hj, h31, rfl⟩ | ⟨j, hj, h31, rfl⟩
  · exact br_t a hp
  · exact br_f (nI_pos h31) (pk_lt 255 j (fun _ => hp) (fun h => absurd h (by omega)))
  · exact absurd ⟨j, hj, rfl⟩ h
theorem pp_xRow_t {j : Nat} (hj : j < 40) (h : ¬ H j = 0) (hp : post 1) : wpX_isRow post (p, t, H, K, V, B, L, G, E) (nI j) := by
  have e : (nI j).toNatClampNeg = j := nI_clamp (by omega)
  unfold wpX_isRow
  exact br_f (nI_pos (by omega)) (pk_le 40 j (fun h => absurd h (by omega)) (fun _ => ⟨vp_in_nI hj (by decide), br_f (by rw [e]; exact h) hp⟩))
theorem pp_xRow_f {x : Int32} (h : ¬ ∃ j, j < 40 ∧ x = nI j ∧ ¬ H j = 0) (hp : post 0) : wpX_isRow post (p, t, H, K, V, B, L, G, E) x := by
  unfold wpX_isRow
  rcases pp_cls x 40 with a | ⟨j, hj, h31, rfl⟩ | ⟨j, hj, h31, rfl⟩
  · exact br_t a hp
  · exact br_f (nI_pos h31) (pk_le 40 j (fun _ => hp) (fun h => absurd h (by omega)))
  · have e : (nI j).toNatClampNeg = j := nI_clamp h31
    have z : H j = 0 := by
      by_cases z : H j = 0
      · exact z
      · exact absurd ⟨j, hj, rfl, z⟩ h
    exact br_f (nI_pos h31) (pk_le 40 j (fun h => absurd h (by omega)) (fun _ => ⟨vp_in_nI hj (by decide), br_t (by rw [e]; exact z) hp⟩))
theorem pp_xPar_t {j : Nat} (h8 : pc ≤ 8) (hj : j < pc) (hp : post 1) : wpX_isPartition post (nI pc, t, H, K, V, B, L, G, E) (nI j) := by
  unfold wpX_isPartition
  exact br_f (nI_pos (by omega)) (pk_le pc j (fun h => absurd h (by omega)) (fun _ => hp))
theorem pp_xPar_f {x : Int32} (h8 : pc ≤ 8) (h : ¬ ∃ j, j < pc ∧ x = nI j) (hp : post 0) : wpX_isPartition post (nI pc, t, H, K, V, B, L, G, E) x := by
  unfold wpX_isPartition
  rcases pp_cls x pc with a | ⟨j, hj, h31, rfl⟩ | ⟨j, hj, h31, rfl⟩
  · exact br_t a hp
  · exact br_f (nI_pos h31) (pk_le pc j (fun _ => hp) (fun h => absurd h (by omega)))
  · exact absurd ⟨j, hj, rfl⟩ h
theorem pp_xFree {f : Nat} (hf : f ≤ 40) (h1 : ∀ j, j < f → ¬ H j = 0) (h2 : f < 40 → H f = 0) (hp : post (nI f)) : wpX_smallestFreeId post (p, t, H, K, V, B, L, G, E) := by
  unfold wpX_smallestFreeId
  refine pp_lp (fun n i => wX_smallestFreeId_2 post p t H K V B L G E n (nI i)) (fun _ => True) f 0 (Nat.zero_le _) trivial (fun n _ => ?_) (fun n i _ hi _ ih => ?_)
  · have e : (nI f).toNatClampNeg = f := nI_clamp (by omega)
    refine pk_le 40 f (fun h => ?_) (fun h => ⟨vp_in_nI h (by decide), br_t (by rw [e]; exact h2 h) hp⟩)
    have q : f = 40 := by omega
    rw [q] at hp
    exact hp
  · have e : (nI i).toNatClampNeg = i := nI_clamp (by omega)
    exact pk_le 40 i (fun h => absurd h (by omega)) (fun h => ⟨vp_in_nI h (by decide), br_f (by rw [e]; exact h1 i hi) (nm_r (nI_1 i) (ih trivial))⟩)
theorem pp_xRows (hp : post (nI (pp_ct (fun j => decide (¬ H j = 0)) 40))) : wpX_rowCount post (p, t, H, K, V, B, L, G, E) := by
  have key : ∃ n, ∀ a, a = nI (pp_ct (fun j => decide (¬ H j = 0)) 0) → wX_rowCount_4 post p t H K V B L G E n a (nI 0) := by
    refine pp_lp (fun n i => ∀ a, a = nI (pp_ct (fun j => decide (¬ H j = 0)) i) → wX_rowCount_4 post p t H K V B L G E n a (nI i)) (fun _ => True) 40 0 (by omega) trivial (fun n _ a ea => ?_) (fun n i _ hi _ ih a ea => ?_)
    · subst ea
      exact pk_le 40 40 (fun _ => hp) (fun h => absurd h (by decide))
    · have e : (nI i).toNatClampNeg = i := nI_clamp (by omega)
      subst ea
      refine pk_le 40 i (fun h => absurd h (by omega)) (fun h => ⟨vp_in_nI h (by decide), br_c (fun z => nm_r (nI_1 i) (ih trivial _ ?_)) (fun z => nm_e (nm_r (nI_1 i) (ih trivial _ ?_)))⟩)
      · rw [e] at z
        rw [pp_ct_n (pp_dn z)]
      · rw [e] at z
        rw [pp_ct_y (pp_dy z), nI_1]
  obtain ⟨n, h⟩ := key
  unfold wpX_rowCount
  exact ⟨n, h _ rfl⟩
theorem pp_xPo {q : Nat} (J : pp_J K B C b pc tc) (hq : q ≤ 255) (hp : post (nI (pp_pt C q))) : ∀ H' K' : Nat → Int32, wpX_partitionOf post (nI pc, t, H', K', V, B, L, G, E) (nI q) := by
  intro H' K'
  obtain ⟨hB, hb, _, _⟩ := J
  have h1 := hB.1
  have h8 := hB.2.1
  have h0 := hB.2.2.1
  unfold wpX_partitionOf
  refine nm_r (pk_sub (a := pc) (b := 1) h1) ?_
  refine pp_lpd (fun n i => wX_partitionOf_7 post (nI q) (nI pc) t H' K' V B L G E n (nI i)) (fun i => ∀ j, i < j → j < pc → q < b j) 0 (pc - 1) (Nat.zero_le _) (fun j a c => absurd c (by omega)) (fun n I0 => ?_) (fun n i _ hi Ii ih => ?_)
  · refine br_t (by decide) ?_
    have e : pp_pt C q = 0 := pp_pt_u hB hq h1 (by omega) I0
    rw [e] at hp
    exact hp
  · have hb5 := hB.2.2.2.2.1 (i + 1) (by omega)
    have e : B (nI (i + 1)).toNatClampNeg = nI (b (i + 1)) := by
      rw [nI_clamp (by omega)]
      exact hb _ (by omega)
    refine br_f (nI_nle (by omega) (by omega)) ⟨vp_in_nI (by omega) (by decide), pk_lt q (b (i + 1)) (fun h => nm_r (pk_m1 i) (ih (fun j a c => ?_))) (fun h => ?_) rfl e (by omega) (by omega)⟩
    · rcases Nat.lt_or_ge (i + 1) j with g | g
      · exact Ii j g c
      · have q2 : j = i + 1 := by omega
        rw [q2]; exact h
    · have e2 : pp_pt C q = i + 1 := pp_pt_u hB hq (by omega) h (fun j a c => Ii j a c)
      rw [e2] at hp
      exact hp
theorem pp_xLies {id i : Nat} (J : pp_J K B C b pc tc) (hid : id < 40) (hi : i < pc) (H' : Nat → Int32) (eH : H' id = H id) (hp : post (pp_i (pp_ps H K C i id))) : wpX_liesIn post (nI pc, t, H', K, V, B, L, G, E) (nI id) (nI i) := by
  have e : (nI id).toNatClampNeg = id := nI_clamp (by omega)
  have h8 := J.1.2.1
  unfold wpX_liesIn
  refine ⟨vp_in_nI hid (by decide), br_c (fun z => ?_) (fun z => ⟨vp_in_nI hid (by decide), ?_⟩)⟩
  · rw [e, eH] at z
    rw [pp_ps_n z] at hp
    exact hp
  · rw [e, eH] at z
    obtain ⟨q, hq, eq⟩ := J.2.2.2 id hid
    have e2 : K (nI id).toNatClampNeg = nI q := by rw [e, eq]
    have e3 : pp_ps H K C i id = decide (pp_pt C q = i) := by rw [pp_ps_y z, eq, nI_clamp (by omega)]
    have lt := (pp_pt_s J.1 hq).2.1
    rw [e2]
    refine pp_xPo J hq ?_ H' K
    rw [e3] at hp
    refine pk_eq (pp_pt C q) i (fun h => ?_) (fun h => ?_)
    · rw [pp_i_t (by rw [h]; exact decide_eq_true rfl)] at hp
      exact hp
    · rw [pp_i_f (fun w => h (of_decide_eq_true w))] at hp
      exact hp
end
end
section
section
variable {p t : Int32} {H K V B L G E C : Nat → Int32} {b : Nat → Nat} {pc tc : Nat} {post : Int32 → Prop}
theorem pp_xRop {i : Nat} (J : pp_J K B C b pc tc) (hi : i < pc) (hp : post (nI (pp_ct (pp_ps H K C i) 40))) : wpX_rowsOfPartition post (nI pc, t, H, K, V, B, L, G, E) (nI i) := by
  have key : ∃ n, ∀ a, a = nI (pp_ct (pp_ps H K C i) 0) → wX_rowsOfPartition_4 post (nI i) (nI pc) t H K V B L G E n a (nI 0) := by
    refine pp_lp (fun n j => ∀ a, a = nI (pp_ct (pp_ps H K C i) j) → wX_rowsOfPartition_4 post (nI i) (nI pc) t H K V B L G E n a (nI j)) (fun _ => True) 40 0 (by omega) trivial (fun n _ a ea => ?_) (fun n j _ hj _ ih a ea => ?_)
    · subst ea
      exact pk_le 40 40 (fun _ => hp) (fun h => absurd h (by decide))
    · subst ea
      refine pk_le 40 j (fun h => absurd h (by omega)) (fun _ => pp_xLies J hj hi H rfl (pp_br (fun h => nm_e (nm_r (nI_1 j) (ih trivial _ ?_))) (fun h => nm_r (nI_1 j) (ih trivial _ ?_))))
      · rw [pp_ct_y h, nI_1]
      · rw [pp_ct_n h]
  obtain ⟨n, h⟩ := key
  unfold wpX_rowsOfPartition
  exact ⟨n, h _ rfl⟩
theorem pp_xSt {x y : Int32} (h4 : tc ≤ 4) (hp : post (pp_i (pp_st L G E tc x y))) : wpX_someTermHolds post (p, nI tc, H, K, V, B, L, G, E) x y := by
  unfold wpX_someTermHolds
  refine pp_lp (fun n i => wX_someTermHolds_2 post x y p (nI tc) H K V B L G E n (nI i)) (fun i => ∀ j, j < i → ¬ pp_tm L G E x y j = true) tc 0 (Nat.zero_le _) (fun j hj => absurd hj (Nat.not_lt_zero _)) (fun n I0 => ?_) (fun n i _ hi Ii ih => ?_)
  · refine pk_le tc tc (fun _ => ?_) (fun h => absurd h (Nat.lt_irrefl _))
    have e : pp_st L G E tc x y = false := pp_any_f tc I0
    rw [e] at hp
    exact hp
  · have e : (nI i).toNatClampNeg = i := nI_clamp (by omega)
    have v4 : vp_in (nI i) 4 := vp_in_nI (by omega) (by decide)
    have nx : ¬ pp_tm L G E x y i = true → wX_someTermHolds_2 post x y p (nI tc) H K V B L G E n (nI (i + 1)) := by
      intro w
      refine ih (fun j hj => ?_)
      rcases Nat.lt_or_ge j i with g | g
      · exact Ii j g
      · have q : j = i := by omega
        rw [q]; exact w
    refine pk_le tc i (fun h => absurd h (by omega)) (fun _ => ⟨v4, br_c (fun z => nm_r (nI_1 i) (nx ?_)) (fun z1 => ⟨v4, br_c (fun z => nm_r (nI_1 i) (nx ?_)) (fun z2 => ⟨v4, br_c (fun z => nm_r (nI_1 i) (nx ?_)) (fun z3 => ?_)⟩)⟩)⟩)
    · rw [e] at z
      exact fun w => Int32.not_le.mpr z (pp_tm_e w).1
    · rw [e] at z
      exact fun w => Int32.not_le.mpr z (pp_tm_e w).2.1
    · rw [e] at z
      exact fun w => Int32.not_le.mpr z (pp_tm_e w).2.2
    · rw [e] at z1 z2 z3
      have w : pp_st L G E tc x y = true := pp_any_t tc hi (pp_tm_t (Int32.not_lt.mp z1) (Int32.not_lt.mp z2) (Int32.not_lt.mp z3))
      rw [w] at hp
      exact hp
theorem pp_xFit {id : Nat} (h4 : tc ≤ 4) (hid : id < 40) (hp : post (pp_i (pp_fit H K V L G E tc id))) : wpX_fulfils post (p, nI tc, H, K, V, B, L, G, E) (nI id) := by
  have e : (nI id).toNatClampNeg = id := nI_clamp (by omega)
  have v40 : vp_in (nI id) 40 := vp_in_nI hid (by decide)
  unfold wpX_fulfils
  refine ⟨v40, br_c (fun z => ?_) (fun z => ⟨v40, v40, ?_⟩)⟩
  · rw [e] at z
    rw [pp_fit_n z] at hp
    exact hp
  · rw [e] at z ⊢
    rw [pp_fit_y z] at hp
    refine pp_xSt h4 (pp_br (fun h => ?_) (fun h => ?_))
    · rw [h] at hp
      exact hp
    · rw [Bool.eq_false_iff.mpr h] at hp
      exact hp
theorem pp_xCount (h4 : tc ≤ 4) (hp : post (nI (pp_ct (pp_fit H K V L G E tc) 40))) : wpX_count post (p, nI tc, H, K, V, B, L, G, E) := by
  have key : ∃ n, ∀ a, a = nI (pp_ct (pp_fit H K V L G E tc) 0) → wX_count_4 post p (nI tc) H K V B L G E n a (nI 0) := by
    refine pp_lp (fun n j => ∀ a, a = nI (pp_ct (pp_fit H K V L G E tc) j) → wX_count_4 post p (nI tc) H K V B L G E n a (nI j)) (fun _ => True) 40 0 (by omega) trivial (fun n _ a ea => ?_) (fun n j _ hj _ ih a ea => ?_)
    · subst ea
      exact pk_le 40 40 (fun _ => hp) (fun h => absurd h (by decide))
    · subst ea
      refine pk_le 40 j (fun h => absurd h (by omega)) (fun _ => pp_xFit h4 hj (pp_br (fun h => nm_e (nm_r (nI_1 j) (ih trivial _ ?_))) (fun h => nm_r (nI_1 j) (ih trivial _ ?_))))
      · rw [pp_ct_y h, nI_1]
      · rw [pp_ct_n h]
  obtain ⟨n, h⟩ := key
  unfold wpX_count
  exact ⟨n, h _ rfl⟩
theorem pp_xSum (h4 : tc ≤ 4) (hp : post (pp_su (pp_fit H K V L G E tc) V 40)) : wpX_sum post (p, nI tc, H, K, V, B, L, G, E) := by
  have key : ∃ n, ∀ a, a = pp_su (pp_fit H K V L G E tc) V 0 → wX_sum_4 post p (nI tc) H K V B L G E n a (nI 0) := by
    refine pp_lp (fun n j => ∀ a, a = pp_su (pp_fit H K V L G E tc) V j → wX_sum_4 post p (nI tc) H K V B L G E n a (nI j)) (fun _ => True) 40 0 (by omega) trivial (fun n _ a ea => ?_) (fun n j _ hj _ ih a ea => ?_)
    · subst ea
      exact pk_le 40 40 (fun _ => hp) (fun h => absurd h (by decide))
    · subst ea
      refine pk_le 40 j (fun h => absurd h (by omega)) (fun _ => pp_xFit h4 hj (pp_br (fun h => ⟨vp_in_nI hj (by decide), nm_e (nm_r (nI_1 j) (ih trivial _ ?_))⟩) (fun h => nm_r (nI_1 j) (ih trivial _ ?_))))
      · rw [pp_su_y h, nI_clamp (by omega)]
      · rw [pp_su_n h]
  obtain ⟨n, h⟩ := key
  unfold wpX_sum
  exact ⟨n, h _ rfl⟩
theorem pp_xCb {o id : Nat} (ho : o < 40) (hid : id < 40) (hp : post (pp_i (pp_cb K id o))) : wpX_comesBefore post (p, t, H, K, V, B, L, G, E) (nI o) (nI id) := by
  have eo : (nI o).toNatClampNeg = o := nI_clamp (by omega)
  have ed : (nI id).toNatClampNeg = id := nI_clamp (by omega)
  have vo : vp_in (nI o) 40 := vp_in_nI ho (by decide)
  have vd : vp_in (nI id) 40 := vp_in_nI hid (by decide)
  unfold wpX_comesBefore
  refine ⟨vo, vd, br_c (fun z => ?_) (fun z1 => ⟨vo, vd, br_c (fun z2 => pk_le id o (fun h => ?_) (fun h => ?_)) (fun z2 => ?_)⟩)⟩
  · rw [eo, ed] at z
    rw [pp_i_t (by simp [pp_cb, z])] at hp
    exact hp
  · rw [eo, ed] at z1
    have q : ¬ o < id := by omega
    rw [pp_i_f (by simp [pp_cb, z1, q])] at hp
    exact hp
  · rw [eo, ed] at z1 z2
    rw [pp_i_t (by simp [pp_cb, z2, h])] at hp
    exact hp
  · rw [eo, ed] at z1 z2
    rw [pp_i_f (by simp [pp_cb, z1, z2])] at hp
    exact hp
/-- how many rows that fulfil come before id -/
def pp_bf (K : Nat → Int32) (F : Nat → Bool) (id : Nat) : Nat := pp_ct (fun o => pp_cb K id o && F o) 40
theorem pp_xBf {id : Nat} (h4 : tc ≤ 4) (hid : id < 40) (hp : post (nI (pp_bf K (pp_fit H K V L G E tc) id))) : wpX_fulfillingBefore post (p, nI tc, H, K, V, B, L, G, E) (nI id) := by
  have key : ∃ n, ∀ a, a = nI (pp_ct (fun o => pp_cb K id o && pp_fit H K V L G E tc o) 0) → wX_fulfillingBefore_4 post (nI id) p (nI tc) H K V B L G E n a (nI 0) := by
    refine pp_lp (fun n j => ∀ a, a = nI (pp_ct (fun o => pp_cb K id o && pp_fit H K V L G E tc o) j) → wX_fulfillingBefore_4 post (nI id) p (nI tc) H K V B L G E n a (nI j)) (fun _ => True) 40 0 (by omega) trivial (fun n _ a ea => ?_) (fun n j _ hj _ ih a ea => ?_)
    · subst ea
      exact pk_le 40 40 (fun _ => hp) (fun h => absurd h (by decide))
    · subst ea
      refine pk_le 40 j (fun h => absurd h (by omega)) (fun _ => pp_xCb hj hid (pp_br (fun h => pp_xFit h4 hj (pp_br (fun g => nm_e (nm_r (nI_1 j) (ih trivial _ ?_))) (fun g => nm_r (nI_1 j) (ih trivial _ ?_)))) (fun h => nm_r (nI_1 j) (ih trivial _ ?_))))
      · rw [pp_ct_y (P := fun o => pp_cb K id o && pp_fit H K V L G E tc o) (by simp [h, g]), nI_1]
      · rw [pp_ct_n (P := fun o => pp_cb K id o && pp_fit H K V L G E tc o) (by simp [g])]
      · rw [pp_ct_n (P := fun o => pp_cb K id o && pp_fit H K V L G E tc o) (by simp [h])]
  obtain ⟨n, h⟩ := key
  unfold wpX_fulfillingBefore
  exact ⟨n, h _ rfl⟩
theorem pp_xMatch {x : Int32} {f : Nat} (h4 : tc ≤ 4) (hf : f ≤ 40) (h1 : ∀ j, j < f → ¬ (pp_fit H K V L G E tc j = true ∧ nI (pp_bf K (pp_fit H K V L G E tc) j) = x)) (h2 : f < 40 → pp_fit H K V L G E tc f = true ∧ nI (pp_bf K (pp_fit H K V L G E tc) f) = x)
    (hp : post (if f < 40 then nI f else -3)) : wpX_match post (p, nI tc, H, K, V, B, L, G, E) x := by
  unfold wpX_match
  refine pp_lp (fun n i => wX_match_2 post x p (nI tc) H K V B L G E n (nI i)) (fun _ => True) f 0 (Nat.zero_le _) trivial (fun n _ => ?_) (fun n i _ hi _ ih => ?_)
  · refine pk_le 40 f (fun h => ?_) (fun h => ?_)
    · rw [if_neg (by omega)] at hp
      exact hp
    · rw [if_pos h] at hp
      obtain ⟨a, c⟩ := h2 h
      exact pp_xFit h4 h (pp_br (fun _ => pp_xBf h4 h (br_t c hp)) (fun w => absurd a w))
  · refine pk_le 40 i (fun h => absurd h (by omega)) (fun h => pp_xFit h4 h (pp_br (fun w => pp_xBf h4 h (br_f (fun c => h1 i hi ⟨w, c⟩) (nm_r (nI_1 i) (ih trivial)))) (fun w => nm_r (nI_1 i) (ih trivial))))
theorem pp_xPb {id : Nat} (h4 : tc ≤ 4) (hid : id < 40) (hp : post (nI (pp_ct (fun x => decide (K x = K id) && pp_fit H K V L G E tc x) id))) : wpX_fulfillingPartnersBelow post (p, nI tc, H, K, V, B, L, G, E) (nI id) := by
  have ed : (nI id).toNatClampNeg = id := nI_clamp (by omega)
  have vd : vp_in (nI id) 40 := vp_in_nI hid (by decide)
  have key : ∃ n, ∀ a, a = nI (pp_ct (fun x => decide (K x = K id) && pp_fit H K V L G E tc x) 0) → wX_fulfillingPartnersBelow_4 post (nI id) p (nI tc) H K V B L G E n a (nI 0) := by
    refine pp_lp (fun n j => ∀ a, a = nI (pp_ct (fun x => decide (K x = K id) && pp_fit H K V L G E tc x) j) → wX_fulfillingPartnersBelow_4 post (nI id) p (nI tc) H K V B L G E n a (nI j)) (fun _ => True) id 0 (by omega) trivial (fun n _ a ea => ?_) (fun n j _ hj _ ih a ea => ?_)
    · subst ea
      exact pk_le id id (fun _ => hp) (fun h => absurd h (Nat.lt_irrefl _))
    · subst ea
      have ej : (nI j).toNatClampNeg = j := nI_clamp (by omega)
      have vj : vp_in (nI j) 40 := vp_in_nI (by omega) (by decide)
      refine pk_le id j (fun h => absurd h (by omega)) (fun _ => ⟨vj, vd, br_c (fun h => pp_xFit h4 (by omega) (pp_br (fun g => nm_e (nm_r (nI_1 j) (ih trivial _ ?_))) (fun g => nm_r (nI_1 j) (ih trivial _ ?_)))) (fun h => nm_r (nI_1 j) (ih trivial _ ?_))⟩)
      · rw [ed, ej] at h
        rw [pp_ct_y (P := fun x => decide (K x = K id) && pp_fit H K V L G E tc x) (by simp [h, g]), nI_1]
      · rw [pp_ct_n (P := fun x => decide (K x = K id) && pp_fit H K V L G E tc x) (by simp [g])]
      · rw [ed, ej] at h
        rw [pp_ct_n (P := fun x => decide (K x = K id) && pp_fit H K V L G E tc x) (by simp [h])]
  obtain ⟨n, h⟩ := key
  unfold wpX_fulfillingPartnersBelow
  exact ⟨n, h _ rfl⟩
theorem pp_xPairs (h4 : tc ≤ 4) (hp : post (nI (pp_sm (fun y => if pp_fit H K V L G E tc y = true then pp_ct (fun x => decide (K x = K y) && pp_fit H K V L G E tc x) y else 0) 40))) : wpX_pairs post (p, nI tc, H, K, V, B, L, G, E) := by
  have key : ∃ n, ∀ a, a = nI (pp_sm (fun y => if pp_fit H K V L G E tc y = true then pp_ct (fun x => decide (K x = K y) && pp_fit H K V L G E tc x) y else 0) 0) → wX_pairs_4 post p (nI tc) H K V B L G E n a (nI 0) := by
    refine pp_lp (fun n j => ∀ a, a = nI (pp_sm (fun y => if pp_fit H K V L G E tc y = true then pp_ct (fun x => decide (K x = K y) && pp_fit H K V L G E tc x) y else 0) j) → wX_pairs_4 post p (nI tc) H K V B L G E n a (nI j)) (fun _ => True) 40 0 (by omega) trivial (fun n _ a ea => ?_) (fun n j _ hj _ ih a ea => ?_)
    · subst ea
      exact pk_le 40 40 (fun _ => hp) (fun h => absurd h (by decide))
    · subst ea
      refine pk_le 40 j (fun h => absurd h (by omega)) (fun _ => pp_xFit h4 hj (pp_br (fun h => pp_xPb h4 hj (nm_e (nm_r (nI_1 j) (ih trivial _ ?_)))) (fun h => nm_r (nI_1 j) (ih trivial _ ?_))))
      · rw [pp_sm, if_pos h, nI_add]
      · rw [pp_sm, if_neg h, Nat.add_zero]
  obtain ⟨n, h⟩ := key
  unfold wpX_pairs
  exact ⟨n, h _ rfl⟩
/-- partition i is touched -/
def pp_tc (H K V C L G E : Nat → Int32) (tc i : Nat) : Bool := pp_any (fun id => pp_ps H K C i id && pp_fit H K V L G E tc id) 40
theorem pp_xIst {i : Nat} (J : pp_J K B C b pc tc) (hi : i < pc) (hp : post (pp_i (pp_tc H K V C L G E tc i))) : wpX_isTouched post (nI pc, nI tc, H, K, V, B, L, G, E) (nI i) := by
  have h4 := J.2.2.1
  unfold wpX_isTouched
  refine pp_lp (fun n j => wX_isTouched_2 post (nI i) (nI pc) (nI tc) H K V B L G E n (nI j)) (fun j => ∀ o, o < j → ¬ (pp_ps H K C i o && pp_fit H K V L G E tc o) = true) 40 0 (Nat.zero_le _) (fun j hj => absurd hj (Nat.not_lt_zero _)) (fun n I0 => ?_) (fun n j _ hj Ij ih => ?_)
  · refine pk_le 40 40 (fun _ => ?_) (fun h => absurd h (by decide))
    have e : pp_tc H K V C L G E tc i = false := pp_any_f (P := fun id => pp_ps H K C i id && pp_fit H K V L G E tc id) 40 I0
    rw [e] at hp
    exact hp
  · have nx : ¬ (pp_ps H K C i j && pp_fit H K V L G E tc j) = true → wX_isTouched_2 post (nI i) (nI pc) (nI tc) H K V B L G E n (nI (j + 1)) := by
      intro w
      refine ih (fun o ho => ?_)
      rcases Nat.lt_or_ge o j with g | g
      · exact Ij o g
      · have q : o = j := by omega
        rw [q]; exact w
    refine pk_le 40 j (fun h => absurd h (by omega)) (fun _ => pp_xLies J hj hi H rfl (pp_br (fun h => pp_xFit h4 hj (pp_br (fun g => ?_) (fun g => nm_r (nI_1 j) (nx ?_)))) (fun h => nm_r (nI_1 j) (nx ?_))))
    · have e : pp_tc H K V C L G E tc i = true := pp_any_t (P := fun id => pp_ps H K C i id && pp_fit H K V L G E tc id) 40 hj (by simp [h, g])
      rw [e] at hp
      exact hp
    · simp [g]
    · simp [h]
theorem pp_xTou (J : pp_J K B C b pc tc) (hp : post (nI (pp_ct (pp_tc H K V C L G E tc) pc))) : wpX_touched post (nI pc, nI tc, H, K, V, B, L, G, E) := by
  have h8 := J.1.2.1
  have key : ∃ n, ∀ a, a = nI (pp_ct (pp_tc H K V C L G E tc) 0) → wX_touched_4 post (nI pc) (nI tc) H K V B L G E n a (nI 0) := by
    refine pp_lp (fun n j => ∀ a, a = nI (pp_ct (pp_tc H K V C L G E tc) j) → wX_touched_4 post (nI pc) (nI tc) H K V B L G E n a (nI j)) (fun _ => True) pc 0 (by omega) trivial (fun n _ a ea => ?_) (fun n j _ hj _ ih a ea => ?_)
    · subst ea
      exact pk_le pc pc (fun _ => hp) (fun h => absurd h (Nat.lt_irrefl _))
    · subst ea
      refine pk_le pc j (fun h => absurd h (by omega)) (fun _ => pp_xIst J hj (pp_br (fun h => nm_e (nm_r (nI_1 j) (ih trivial _ ?_))) (fun h => nm_r (nI_1 j) (ih trivial _ ?_))))
      · rw [pp_ct_y h, nI_1]
      · rw [pp_ct_n h]
  obtain ⟨n, h⟩ := key
  unfold wpX_touched
  exact ⟨n, h _ rfl⟩
end
end
section
theorem pp_m1p (x : Int32) : x + (-1) + 1 = x := by
  rw [Int32.add_assoc, show (-1 : Int32) + 1 = 0 from rfl, Int32.add_zero]
section
variable {t : Int32} {H K V L G E C : Nat → Int32} {b : Nat → Nat} {pc tc : Nat} {post : Int32 → Prop}
theorem pp_yKey_t {q : Nat} (hq : q < 256) (hp : post 0) : wpY_badKey post (t, H, K, V, C, L, G, E) (nI q) := by
  unfold wpY_badKey
  exact br_f (nI_pos (by omega)) (pk_le q 255 (fun _ => hp) (fun h => absurd h (by omega)))
theorem pp_yKey_f {x : Int32} (h : ¬ ∃ q, q < 256 ∧ x = nI q) (hp : post 1) : wpY_badKey post (t, H, K, V, C, L, G, E) x := by
  unfold wpY_badKey
  rcases pp_cls x 256 with a | ⟨j, hj, h31, rfl⟩ | ⟨j, hj, h31, rfl⟩
  · exact br_t a hp
  · exact br_f (nI_pos h31) (pk_le j 255 (fun h => absurd h (by omega)) (fun _ => hp))
  · exact absurd ⟨j, hj, rfl⟩ h
theorem pp_yRow_t {j : Nat} (hj : j < 40) (h : ¬ H j = 0) (hp : post 0) : wpY_none post (t, H, K, V, C, L, G, E) (nI j) := by
  have e : (nI j).toNatClampNeg = j := nI_clamp (by omega)
  unfold wpY_none
  exact br_f (nI_pos (by omega)) (pk_lt 39 j (fun h => absurd h (by omega)) (fun _ => ⟨vp_in_nI hj (by decide), br_f (by rw [e]; exact h) hp⟩))
theorem pp_yRow_f {x : Int32} (h : ¬ ∃ j, j < 40 ∧ x = nI j ∧ ¬ H j = 0) (hp : post 1) : wpY_none post (t, H, K, V, C, L, G, E) x := by
  unfold wpY_none
  rcases pp_cls x 40 with a | ⟨j, hj, h31, rfl⟩ | ⟨j, hj, h31, rfl⟩
  · exact br_t a hp
  · exact br_f (nI_pos h31) (pk_lt 39 j (fun _ => hp) (fun h => absurd h (by omega)))
  · have e : (nI j).toNatClampNeg = j := nI_clamp h31
    have z : H j = 0 := by
      by_cases z : H j = 0
      · exact z
      · exact absurd ⟨j, hj, rfl, z⟩ h
    exact br_f (nI_pos h31) (pk_lt 39 j (fun h => absurd h (by omega)) (fun _ => ⟨vp_in_nI hj (by decide), br_t (by rw [e]; exact z) hp⟩))
theorem pp_yPart {q : Nat} (hB : pp_Bd b pc C) (hq : q ≤ 255) (hp : post (nI (pp_pt C q))) : wpY_part post (t, H, K, V, C, L, G, E) (nI q) := by
  have key : ∃ n, ∀ a, a = nI (pp_cn C 0) + (-1) → wY_part_4 post (nI q) t H K V C L G E n a (nI 0) := by
    refine pp_lp (fun n i => ∀ a, a = nI (pp_cn C i) + (-1) → wY_part_4 post (nI q) t H K V C L G E n a (nI i)) (fun _ => True) (q + 1) 0 (by omega) trivial (fun n _ a ea => ?_) (fun n i _ hi _ ih a ea => ?_)
    · refine pk_lt q (q + 1) (fun _ => ?_) (fun h => absurd h (by omega))
      rw [ea, (pp_pt_s hB hq).1, pk_m1]
      exact hp
    · have e : (nI i).toNatClampNeg = i := nI_clamp (by omega)
      subst ea
      refine pk_lt q i (fun h => absurd h (by omega)) (fun h => ⟨vp_in_nI (by omega) (by decide), br_c (fun z => nm_r (nI_1 i) (ih trivial _ ?_)) (fun z => nm_e (nm_r (nI_1 i) (ih trivial _ ?_)))⟩)
      · rw [e] at z
        rw [pp_cn_z z]
      · rw [e] at z
        rw [pp_cn_n z, pk_m1, pp_m1p]
  obtain ⟨n, h⟩ := key
  unfold wpY_part
  exact ⟨n, h _ (show (-1 : Int32) = nI 0 + (-1) from by decide)⟩
theorem pp_yParts (hB : pp_Bd b pc C) (hp : post (nI pc)) : wpY_partitions post (t, H, K, V, C, L, G, E) := by
  have e : pp_pt C 255 + 1 = pc := (pp_pt_s hB (Nat.le_refl 255)).1.symm.trans (pp_cn_256 hB)
  unfold wpY_partitions
  refine pp_yPart (q := 255) hB (Nat.le_refl _) ?_
  show post (nI (pp_pt C 255) + 1)
  rw [nI_1, e]
  exact hp
theorem pp_yBound_t {i : Nat} (hB : pp_Bd b pc C) (hi : i < pc) (hp : post (nI (b i))) : wpY_bound post (t, H, K, V, C, L, G, E) (nI i) := by
  have h5 := hB.2.2.2.2.1 i hi
  have h8 := hB.2.1
  have key : ∃ n, ∀ a, a = nI (pp_cn C 0) → wY_bound_4 post (nI i) t H K V C L G E n a (nI 0) := by
    refine pp_lp (fun n k => ∀ a, a = nI (pp_cn C k) → wY_bound_4 post (nI i) t H K V C L G E n a (nI k)) (fun _ => True) (b i) 0 (by omega) trivial (fun n _ a ea => ?_) (fun n k _ hk _ ih a ea => ?_)
    · have e : (nI (b i)).toNatClampNeg = b i := nI_clamp (by omega)
      refine pk_le 256 (b i) (fun h => absurd h (by omega)) (fun _ => ⟨vp_in_nI (by omega) (by decide), br_f (by rw [e]; exact pp_C_b hB hi) (br_t ?_ hp)⟩)
      rw [ea, pp_cn_b hB hi]
    · have e : (nI k).toNatClampNeg = k := nI_clamp (by omega)
      subst ea
      refine pk_le 256 k (fun h => absurd h (by omega)) (fun _ => ⟨vp_in_nI (by omega) (by decide), br_c (fun z => nm_r (nI_1 k) (ih trivial _ ?_)) (fun z => br_f ?_ (nm_e (nm_r (nI_1 k) (ih trivial _ ?_))))⟩)
      · rw [e] at z
        rw [pp_cn_z z]
      · rw [e] at z
        have g := pp_cn_k hB (by omega) z
        rw [nI_eq (by omega) (by omega)]
        intro w
        rw [w] at g
        omega
      · rw [e] at z
        rw [pp_cn_n z, nI_1]
  obtain ⟨n, h⟩ := key
  unfold wpY_bound
  exact ⟨n, h _ rfl⟩
theorem pp_yBound_f {x : Int32} (hB : pp_Bd b pc C) (hn : ¬ ∃ i, i < pc ∧ x = nI i) (hp : post (-5)) : wpY_bound post (t, H, K, V, C, L, G, E) x := by
  have key : ∃ n, ∀ a, a = nI (pp_cn C 0) → wY_bound_4 post x t H K V C L G E n a (nI 0) := by
    refine pp_lp (fun n k => ∀ a, a = nI (pp_cn C k) → wY_bound_4 post x t H K V C L G E n a (nI k)) (fun _ => True) 256 0 (by omega) trivial (fun n _ a ea => ?_) (fun n k _ hk _ ih a ea => ?_)
    · exact pk_le 256 256 (fun _ => hp) (fun h => absurd h (Nat.lt_irrefl _))
    · have e : (nI k).toNatClampNeg = k := nI_clamp (by omega)
      subst ea
      refine pk_le 256 k (fun h => absurd h (by omega)) (fun _ => ⟨vp_in_nI (by omega) (by decide), br_c (fun z => nm_r (nI_1 k) (ih trivial _ ?_)) (fun z => br_f ?_ (nm_e (nm_r (nI_1 k) (ih trivial _ ?_))))⟩)
      · rw [e] at z
        rw [pp_cn_z z]
      · rw [e] at z
        exact fun w => hn ⟨_, (pp_cn_k hB (by omega) z).1, w.symm⟩
      · rw [e] at z
        rw [pp_cn_n z, nI_1]
  obtain ⟨n, h⟩ := key
  unfold wpY_bound
  exact ⟨n, h _ rfl⟩
theorem pp_yRi_t {i : Nat} (hB : pp_Bd b pc C) (hK : pp_KR K) (hi : i < pc) (hp : post (nI (pp_ct (pp_ps H K C i) 40))) : wpY_rowsIn post (t, H, K, V, C, L, G, E) (nI i) := by
  have h8 := hB.2.1
  have key : ∃ n, ∀ a, a = nI (pp_ct (pp_ps H K C i) 0) → wY_rowsIn_19 post (nI i) t H K V C L G E n a (nI 0) := by
    refine pp_lp (fun n j => ∀ a, a = nI (pp_ct (pp_ps H K C i) j) → wY_rowsIn_19 post (nI i) t H K V C L G E n a (nI j)) (fun _ => True) 40 0 (by omega) trivial (fun n _ a ea => ?_) (fun n j _ hj _ ih a ea => ?_)
    · subst ea
      exact pk_le 40 40 (fun _ => hp) (fun h => absurd h (by decide))
    · have e : (nI j).toNatClampNeg = j := nI_clamp (by omega)
      have vj : vp_in (nI j) 40 := vp_in_nI hj (by decide)
      obtain ⟨q, hq, eq⟩ := hK j hj
      have e2 : K (nI j).toNatClampNeg = nI q := by rw [e, eq]
      have lt := (pp_pt_s hB hq).2.1
      subst ea
      refine pk_le 40 j (fun h => absurd h (by omega)) (fun _ => ⟨vj, br_c (fun z => nm_r (nI_1 j) (ih trivial _ ?_)) (fun z => ⟨vj, ?_⟩)⟩)
      · rw [e] at z
        rw [pp_ct_n (by rw [pp_ps_n z]; decide)]
      · rw [e] at z
        have e3 : pp_ps H K C i j = decide (pp_pt C q = i) := by rw [pp_ps_y z, eq, nI_clamp (by omega)]
        rw [e2]
        refine pp_yPart hB hq (pk_eq (pp_pt C q) i (fun h => nm_e (nm_r (nI_1 j) (ih trivial _ ?_))) (fun h => nm_r (nI_1 j) (ih trivial _ ?_)))
        · rw [pp_ct_y (by rw [e3]; exact decide_eq_true h), nI_1]
        · rw [pp_ct_n (by rw [e3]; exact fun w => h (of_decide_eq_true w))]
  obtain ⟨n, h⟩ := key
  unfold wpY_rowsIn
  exact br_f (nI_pos (by omega)) (pp_yParts hB (pk_lt i pc (fun _ => ⟨n, h _ rfl⟩) (fun h => absurd h (by omega))))
theorem pp_yRi_f {x : Int32} (hB : pp_Bd b pc C) (hn : ¬ ∃ i, i < pc ∧ x = nI i) (hp : post (-5)) : wpY_rowsIn post (t, H, K, V, C, L, G, E) x := by
  have h8 := hB.2.1
  unfold wpY_rowsIn
  rcases pp_cls x pc with a | ⟨j, hj, h31, rfl⟩ | ⟨j, hj, h31, rfl⟩
  · exact br_t a hp
  · exact br_f (nI_pos h31) (pp_yParts hB (pk_lt j pc (fun h => absurd h (by omega)) (fun _ => hp)))
  · exact absurd ⟨j, hj, rfl⟩ hn
theorem pp_yFit {id : Nat} (h4 : tc ≤ 4) (hid : id < 40) (hp : post (pp_i (pp_fit H K V L G E tc id))) : wpY_fits post (nI tc, H, K, V, C, L, G, E) (nI id) := by
  have ed : (nI id).toNatClampNeg = id := nI_clamp (by omega)
  have vd : vp_in (nI id) 40 := vp_in_nI hid (by decide)
  unfold wpY_fits
  refine pp_lp (fun n i => wY_fits_2 post (nI id) (nI tc) H K V C L G E n (nI i)) (fun i => H id = 0 ∨ ∀ j, j < i → ¬ pp_tm L G E (K id) (V id) j = true) tc 0 (Nat.zero_le _) (Or.inr (fun j hj => absurd hj (Nat.not_lt_zero _))) (fun n I0 => ?_) (fun n i _ hi Ii ih => ?_)
  · refine pk_le tc tc (fun _ => ?_) (fun h => absurd h (Nat.lt_irrefl _))
    by_cases z : H id = 0
    · rw [pp_fit_n z] at hp
      exact hp
    · have I1 : ∀ j, j < tc → ¬ pp_tm L G E (K id) (V id) j = true := I0.resolve_left z
      have e : pp_st L G E tc (K id) (V id) = false := pp_any_f tc I1
      rw [pp_fit_y z, e] at hp
      exact hp
  · have e : (nI i).toNatClampNeg = i := nI_clamp (by omega)
    have v4 : vp_in (nI i) 4 := vp_in_nI (by omega) (by decide)
    refine pk_le tc i (fun h => absurd h (by omega)) (fun _ => ⟨vd, br_c (fun z => nm_r (nI_1 i) (ih (Or.inl ?_))) (fun z0 => ?_)⟩)
    · rw [ed] at z
      exact z
    · rw [ed] at z0
      have nx : ¬ pp_tm L G E (K id) (V id) i = true → wY_fits_2 post (nI id) (nI tc) H K V C L G E n (nI (i + 1)) := by
        intro w
        refine ih (Or.inr (fun j hj => ?_))
        rcases Nat.lt_or_ge j i with g | g
        · exact Ii.resolve_left z0 j g
        · have q : j = i := by omega
          rw [q]; exact w
      refine ⟨v4, vd, br_c (fun z => nm_r (nI_1 i) (nx ?_)) (fun z1 => ⟨vd, v4, br_c (fun z => nm_r (nI_1 i) (nx ?_)) (fun z2 => ⟨vd, v4, br_c (fun z => nm_r (nI_1 i) (nx ?_)) (fun z3 => ?_)⟩)⟩)⟩
      · rw [e, ed] at z
        exact fun w => Int32.not_le.mpr z (pp_tm_e w).1
      · rw [e, ed] at z
        exact fun w => Int32.not_le.mpr z (pp_tm_e w).2.1
      · rw [e, ed] at z
        exact fun w => Int32.not_le.mpr z (pp_tm_e w).2.2
      · rw [e, ed] at z1 z2 z3
        have w : pp_st L G E tc (K id) (V id) = true := pp_any_t tc hi (pp_tm_t (Int32.not_lt.mp z1) (Int32.not_lt.mp z2) (Int32.not_lt.mp z3))
        rw [pp_fit_y z0, w] at hp
        exact hp
theorem pp_yCount (h4 : tc ≤ 4) (hp : post (nI (pp_ct (pp_fit H K V L G E tc) 40))) : wpY_count post (nI tc, H, K, V, C, L, G, E) := by
  have key : ∃ n, ∀ a, a = nI (pp_ct (pp_fit H K V L G E tc) 0) → wY_count_4 post (nI tc) H K V C L G E n a (nI 0) := by
    refine pp_lp (fun n j => ∀ a, a = nI (pp_ct (pp_fit H K V L G E tc) j) → wY_count_4 post (nI tc) H K V C L G E n a (nI j)) (fun _ => True) 40 0 (by omega) trivial (fun n _ a ea => ?_) (fun n j _ hj _ ih a ea => ?_)
    · subst ea
      exact pk_le 40 40 (fun _ => hp) (fun h => absurd h (by decide))
    · subst ea
      refine pk_le 40 j (fun h => absurd h (by omega)) (fun _ => pp_yFit h4 hj (pp_br (fun h => nm_e (nm_r (nI_1 j) (ih trivial _ ?_))) (fun h => nm_r (nI_1 j) (ih trivial _ ?_))))
      · rw [pp_ct_y h, nI_1]
      · rw [pp_ct_n h]
  obtain ⟨n, h⟩ := key
  unfold wpY_count
  exact ⟨n, h _ rfl⟩
theorem pp_ySum (h4 : tc ≤ 4) (hp : post (pp_su (pp_fit H K V L G E tc) V 40)) : wpY_sum post (nI tc, H, K, V, C, L, G, E) := by
  have key : ∃ n, ∀ a, a = pp_su (pp_fit H K V L G E tc) V 0 → wY_sum_4 post (nI tc) H K V C L G E n a (nI 0) := by
    refine pp_lp (fun n j => ∀ a, a = pp_su (pp_fit H K V L G E tc) V j → wY_sum_4 post (nI tc) H K V C L G E n a (nI j)) (fun _ => True) 40 0 (by omega) trivial (fun n _ a ea => ?_) (fun n j _ hj _ ih a ea => ?_)
    · subst ea
      exact pk_le 40 40 (fun _ => hp) (fun h => absurd h (by decide))
    · subst ea
      refine pk_le 40 j (fun h => absurd h (by omega)) (fun _ => pp_yFit h4 hj (pp_br (fun h => ⟨vp_in_nI hj (by decide), nm_e (nm_r (nI_1 j) (ih trivial _ ?_))⟩) (fun h => nm_r (nI_1 j) (ih trivial _ ?_))))
      · rw [pp_su_y h, nI_clamp (by omega)]
      · rw [pp_su_n h]
  obtain ⟨n, h⟩ := key
  unfold wpY_sum
  exact ⟨n, h _ rfl⟩
theorem pp_yPl {id : Nat} (h4 : tc ≤ 4) (hid : id < 40) (hp : post (nI (pp_bf K (pp_fit H K V L G E tc) id))) : wpY_place post (nI tc, H, K, V, C, L, G, E) (nI id) := by
  have ed : (nI id).toNatClampNeg = id := nI_clamp (by omega)
  have vd : vp_in (nI id) 40 := vp_in_nI hid (by decide)
  have key : ∃ n, ∀ a, a = nI (pp_ct (fun o => pp_cb K id o && pp_fit H K V L G E tc o) 0) → wY_place_4 post (nI id) (nI tc) H K V C L G E n a (nI 0) := by
    refine pp_lp (fun n j => ∀ a, a = nI (pp_ct (fun o => pp_cb K id o && pp_fit H K V L G E tc o) j) → wY_place_4 post (nI id) (nI tc) H K V C L G E n a (nI j)) (fun _ => True) 40 0 (by omega) trivial (fun n _ a ea => ?_) (fun n j _ hj _ ih a ea => ?_)
    · subst ea
      exact pk_le 40 40 (fun _ => hp) (fun h => absurd h (by decide))
    · have ej : (nI j).toNatClampNeg = j := nI_clamp (by omega)
      have vj : vp_in (nI j) 40 := vp_in_nI hj (by decide)
      have ny : ∀ a, pp_cb K id j = true → pp_fit H K V L G E tc j = true → a = nI (pp_ct (fun o => pp_cb K id o && pp_fit H K V L G E tc o) j) → wY_place_4 post (nI id) (nI tc) H K V C L G E n (a + 1) (nI (j + 1)) := by
        intro a c g ea
        refine ih trivial _ ?_
        rw [ea, pp_ct_y (P := fun o => pp_cb K id o && pp_fit H K V L G E tc o) (by simp [c, g]), nI_1]
      have nn : ∀ a, ¬ (pp_cb K id j && pp_fit H K V L G E tc j) = true → a = nI (pp_ct (fun o => pp_cb K id o && pp_fit H K V L G E tc o) j) → wY_place_4 post (nI id) (nI tc) H K V C L G E n a (nI (j + 1)) := by
        intro a c ea
        refine ih trivial _ ?_
        rw [ea, pp_ct_n (P := fun o => pp_cb K id o && pp_fit H K V L G E tc o) c]
      refine pk_le 40 j (fun h => absurd h (by omega)) (fun _ => pp_yFit h4 hj (pp_br (fun g => ⟨vj, vd, br_c (fun z => nm_e (nm_r (nI_1 j) (ny a ?_ g ea))) (fun z1 => ⟨vj, vd, br_c (fun z2 => pk_le id j (fun h => nm_r (nI_1 j) (nn a ?_ ea)) (fun h => nm_e (nm_r (nI_1 j) (ny a ?_ g ea)))) (fun z2 => nm_r (nI_1 j) (nn a ?_ ea))⟩)⟩) (fun g => nm_r (nI_1 j) (nn a (by simp [g]) ea))))
      · rw [ej, ed] at z
        simp [pp_cb, z]
      · rw [ej, ed] at z1
        have q : ¬ j < id := by omega
        simp [pp_cb, z1, q]
      · rw [ej, ed] at z2
        simp [pp_cb, z2, h]
      · rw [ej, ed] at z1 z2
        simp [pp_cb, z1, z2]
  obtain ⟨n, h⟩ := key
  unfold wpY_place
  exact ⟨n, h _ rfl⟩
theorem pp_yMatch {x : Int32} {f : Nat} (h4 : tc ≤ 4) (hf : f ≤ 40) (h1 : ∀ j, j < f → ¬ (pp_fit H K V L G E tc j = true ∧ nI (pp_bf K (pp_fit H K V L G E tc) j) = x)) (h2 : f < 40 → pp_fit H K V L G E tc f = true ∧ nI (pp_bf K (pp_fit H K V L G E tc) f) = x)
    (hp : post (if f < 40 then nI f else -3)) : wpY_match post (nI tc, H, K, V, C, L, G, E) x := by
  unfold wpY_match
  refine pp_lp (fun n i => wY_match_2 post x (nI tc) H K V C L G E n (nI i)) (fun _ => True) f 0 (Nat.zero_le _) trivial (fun n _ => ?_) (fun n i _ hi _ ih => ?_)
  · refine pk_le 40 f (fun h => ?_) (fun h => ?_)
    · rw [if_neg (by omega)] at hp
      exact hp
    · rw [if_pos h] at hp
      obtain ⟨a, c⟩ := h2 h
      exact pp_yFit h4 h (pp_br (fun _ => pp_yPl h4 h (br_t c hp)) (fun w => absurd a w))
  · refine pk_le 40 i (fun h => absurd h (by omega)) (fun h => pp_yFit h4 h (pp_br (fun w => pp_yPl h4 h (br_f (fun c => h1 i hi ⟨w, c⟩) (nm_r (nI_1 i) (ih trivial)))) (fun w => nm_r (nI_1 i) (ih trivial))))
end
end
section
section
variable {t : Int32} {H K V L G E C : Nat → Int32} {b : Nat → Nat} {pc tc : Nat} {post : Int32 → Prop}
theorem pp_yPin {J4 : Int32 → Int32 → Prop} {x : Nat} (h4 : tc ≤ 4) (hx : x < 40) (s : Nat)
    (hJ : J4 (nI (s + pp_ct (fun y => decide (x < y) && (decide (K x = K y) && (pp_fit H K V L G E tc x && pp_fit H K V L G E tc y))) 40)) (nI (x + 1))) :
    ∃ n, wY_pairs_14 post J4 (nI x) (nI tc) H K V C L G E n (nI s) (nI (x + 1)) := by
  have ex : (nI x).toNatClampNeg = x := nI_clamp (by omega)
  have vx : vp_in (nI x) 40 := vp_in_nI hx (by decide)
  have key : ∃ n, ∀ a, a = nI (s + pp_ct (fun y => decide (x < y) && (decide (K x = K y) && (pp_fit H K V L G E tc x && pp_fit H K V L G E tc y))) (x + 1)) → wY_pairs_14 post J4 (nI x) (nI tc) H K V C L G E n a (nI (x + 1)) := by
    refine pp_lp (fun n y => ∀ a, a = nI (s + pp_ct (fun y => decide (x < y) && (decide (K x = K y) && (pp_fit H K V L G E tc x && pp_fit H K V L G E tc y))) y) → wY_pairs_14 post J4 (nI x) (nI tc) H K V C L G E n a (nI y)) (fun _ => True) 40 (x + 1) (by omega) trivial (fun n _ a ea => ?_) (fun n y hxy hy _ ih a ea => ?_)
    · subst ea
      exact pk_le 40 40 (fun _ => nm_r (nI_1 x) hJ) (fun h => absurd h (by decide))
    · have ey : (nI y).toNatClampNeg = y := nI_clamp (by omega)
      have vy : vp_in (nI y) 40 := vp_in_nI hy (by decide)
      have xy : x < y := by omega
      have nn : ¬ (decide (x < y) && (decide (K x = K y) && (pp_fit H K V L G E tc x && pp_fit H K V L G E tc y))) = true → wY_pairs_14 post J4 (nI x) (nI tc) H K V C L G E n a (nI (y + 1)) := by
        intro c
        refine ih trivial _ ?_
        rw [ea, pp_ct_n (P := fun y => decide (x < y) && (decide (K x = K y) && (pp_fit H K V L G E tc x && pp_fit H K V L G E tc y))) c]
      have ny : (decide (x < y) && (decide (K x = K y) && (pp_fit H K V L G E tc x && pp_fit H K V L G E tc y))) = true → wY_pairs_14 post J4 (nI x) (nI tc) H K V C L G E n (a + 1) (nI (y + 1)) := by
        intro c
        refine ih trivial _ ?_
        rw [ea, pp_ct_y (P := fun y => decide (x < y) && (decide (K x = K y) && (pp_fit H K V L G E tc x && pp_fit H K V L G E tc y))) c, nI_1, Nat.add_assoc]
      refine pk_le 40 y (fun h => absurd h (by omega)) (fun _ => ⟨vx, vy, br_c (fun z => pp_yFit h4 hx (pp_br (fun f1 => pp_yFit h4 hy (pp_br (fun f2 => nm_e (nm_r (nI_1 y) (ny ?_))) (fun f2 => nm_r (nI_1 y) (nn ?_)))) (fun f1 => nm_r (nI_1 y) (nn ?_)))) (fun z => nm_r (nI_1 y) (nn ?_))⟩)
      · rw [ex, ey] at z
        simp [xy, z, f1, f2]
      · simp [f2]
      · simp [f1]
      · rw [ex, ey] at z
        simp [z]
  obtain ⟨n, h⟩ := key
  refine ⟨n, h _ ?_⟩
  rw [pp_ct_0 (x + 1) (fun j hj => ?_), Nat.add_zero]
  have q : ¬ x < j := by omega
  simp [q]
theorem pp_yPairs (h4 : tc ≤ 4) (hp : post (nI (pp_sm (fun x => pp_ct (fun y => decide (x < y) && (decide (K x = K y) && (pp_fit H K V L G E tc x && pp_fit H K V L G E tc y))) 40) 40))) : wpY_pairs post (nI tc, H, K, V, C, L, G, E) := by
  have key : ∃ n, ∀ a, a = nI (pp_sm (fun x => pp_ct (fun y => decide (x < y) && (decide (K x = K y) && (pp_fit H K V L G E tc x && pp_fit H K V L G E tc y))) 40) 0) → wY_pairs_4 post (nI tc) H K V C L G E n a (nI 0) := by
    refine pp_lp (fun n x => ∀ a, a = nI (pp_sm (fun x => pp_ct (fun y => decide (x < y) && (decide (K x = K y) && (pp_fit H K V L G E tc x && pp_fit H K V L G E tc y))) 40) x) → wY_pairs_4 post (nI tc) H K V C L G E n a (nI x)) (fun _ => True) 40 0 (by omega) trivial (fun n _ a ea => ?_) (fun n x _ hx _ ih a ea => ?_)
    · subst ea
      exact pk_le 40 40 (fun _ => hp) (fun h => absurd h (by decide))
    · subst ea
      refine pk_le 40 x (fun h => absurd h (by omega)) (fun _ => nm_r (nI_1 x) (pp_yPin h4 hx _ (ih trivial _ ?_)))
      rw [pp_sm]
  obtain ⟨n, h⟩ := key
  unfold wpY_pairs
  exact ⟨n, h _ rfl⟩
theorem pp_yTin {J4 : Int32 → Int32 → Prop} {i : Nat} {a : Int32} (hB : pp_Bd b pc C) (hK : pp_KR K) (h4 : tc ≤ 4) (hi : i < 8) (ht : pp_tc H K V C L G E tc i = true → J4 (a + 1) (nI (i + 1))) (hf : ¬ pp_tc H K V C L G E tc i = true → J4 a (nI (i + 1))) :
    ∃ n, wY_touched_15 post J4 a (nI i) (nI tc) H K V C L G E n 0 0 := by
  have key : ∃ n, ∀ z, z = pp_i (pp_any (fun id => pp_ps H K C i id && pp_fit H K V L G E tc id) 0) → wY_touched_15 post J4 a (nI i) (nI tc) H K V C L G E n z (nI 0) := by
    refine pp_lp (fun n j => ∀ z, z = pp_i (pp_any (fun id => pp_ps H K C i id && pp_fit H K V L G E tc id) j) → wY_touched_15 post J4 a (nI i) (nI tc) H K V C L G E n z (nI j)) (fun _ => True) 40 0 (by omega) trivial (fun n _ z ez => ?_) (fun n j _ hj _ ih z ez => ?_)
    · subst ez
      exact pk_le 40 40 (fun _ => pp_br (fun w => nm_e (nm_r (nI_1 i) (ht w))) (fun w => nm_r (nI_1 i) (hf w))) (fun h => absurd h (by decide))
    · have ej : (nI j).toNatClampNeg = j := nI_clamp (by omega)
      have vj : vp_in (nI j) 40 := vp_in_nI hj (by decide)
      obtain ⟨q, hq, eq⟩ := hK j hj
      have e2 : K (nI j).toNatClampNeg = nI q := by rw [ej, eq]
      have lt := (pp_pt_s hB hq).2.1
      have h8 := hB.2.1
      have nn : ¬ (pp_ps H K C i j && pp_fit H K V L G E tc j) = true → wY_touched_15 post J4 a (nI i) (nI tc) H K V C L G E n z (nI (j + 1)) := by
        intro c
        refine ih trivial _ ?_
        rw [ez, pp_any_n (P := fun id => pp_ps H K C i id && pp_fit H K V L G E tc id) c]
      refine pk_le 40 j (fun h => absurd h (by omega)) (fun _ => pp_yFit h4 hj (pp_br (fun g => ⟨vj, ?_⟩) (fun g => nm_r (nI_1 j) (nn (by simp [g])))))
      have e3 : pp_ps H K C i j = decide (pp_pt C q = i) := by rw [pp_ps_y (pp_fit_h g), eq, nI_clamp (by omega)]
      rw [e2]
      refine pp_yPart hB hq (pk_eq (pp_pt C q) i (fun h => nm_r (nI_1 j) (ih trivial _ ?_)) (fun h => nm_r (nI_1 j) (nn ?_)))
      · rw [pp_any_y (P := fun id => pp_ps H K C i id && pp_fit H K V L G E tc id) (by simp [e3, g, h])]
        rfl
      · simp [e3, h]
  obtain ⟨n, h⟩ := key
  exact ⟨n, h _ rfl⟩
theorem pp_yTou (hB : pp_Bd b pc C) (hK : pp_KR K) (h4 : tc ≤ 4) (hp : post (nI (pp_ct (pp_tc H K V C L G E tc) 8))) : wpY_touched post (nI tc, H, K, V, C, L, G, E) := by
  have key : ∃ n, ∀ a, a = nI (pp_ct (pp_tc H K V C L G E tc) 0) → wY_touched_4 post (nI tc) H K V C L G E n a (nI 0) := by
    refine pp_lp (fun n j => ∀ a, a = nI (pp_ct (pp_tc H K V C L G E tc) j) → wY_touched_4 post (nI tc) H K V C L G E n a (nI j)) (fun _ => True) 8 0 (by omega) trivial (fun n _ a ea => ?_) (fun n j _ hj _ ih a ea => ?_)
    · subst ea
      exact pk_le 8 8 (fun _ => hp) (fun h => absurd h (by decide))
    · subst ea
      refine pk_le 8 j (fun h => absurd h (by omega)) (fun _ => pp_yTin hB hK h4 hj (fun h => ih trivial _ ?_) (fun h => ih trivial _ ?_))
      · rw [pp_ct_y h, nI_1]
      · rw [pp_ct_n h]
  obtain ⟨n, h⟩ := key
  unfold wpY_touched
  exact ⟨n, h _ rfl⟩
theorem pp_tou8 (hB : pp_Bd b pc C) (hK : pp_KR K) : pp_ct (pp_tc H K V C L G E tc) 8 = pp_ct (pp_tc H K V C L G E tc) pc := by
  have h8 := hB.2.1
  have e : 8 = pc + (8 - pc) := by omega
  rw [e]
  refine pp_ct_up (8 - pc) (fun i hi => ?_)
  refine pp_any_f (P := fun id => pp_ps H K C i id && pp_fit H K V L G E tc id) 40 (fun j hj w => ?_)
  have w2 : (pp_ps H K C i j && pp_fit H K V L G E tc j) = true := w
  rw [Bool.and_eq_true] at w2
  obtain ⟨q, hq, eq⟩ := hK j hj
  have lt := (pp_pt_s hB hq).2.1
  have g := (pp_ps_h w2.1).2
  rw [eq, nI_clamp (by omega)] at g
  omega
end
end
section
section
variable {p t : Int32} {H K V B L G E C : Nat → Int32} {b : Nat → Nat} {pc tc : Nat}
theorem pp_xIns_f {post : Int32 → SX → Prop} {x y : Int32} (h : ¬ ∃ q, q < 256 ∧ x = nI q) (hp : post (-1) (p, t, H, K, V, B, L, G, E)) : wpX_insert post (p, t, H, K, V, B, L, G, E) x y := by
  unfold wpX_insert
  exact pp_xKey_f h (br_t rfl hp)
theorem pp_xIns {post : Int32 → SX → Prop} {q f : Nat} {y : Int32} (hq : q < 256) (hf : f ≤ 40) (h1 : ∀ j, j < f → ¬ H j = 0) (h2 : f < 40 → H f = 0)
    (hp : f < 40 → post (nI f) (p, t, upd H f 1, upd K f (nI q), upd V f y, B, L, G, E)) (hn : 40 ≤ f → post (-2) (p, t, H, K, V, B, L, G, E)) : wpX_insert post (p, t, H, K, V, B, L, G, E) (nI q) y := by
  have e : (nI f).toNatClampNeg = f := nI_clamp (by omega)
  unfold wpX_insert
  refine pp_xKey_t hq (br_f (by decide) (pp_xFree hf h1 h2 (pk_lt f 40 (fun h => ?_) (fun h => hn h))))
  have v : vp_in (nI f) 40 := vp_in_nI h (by decide)
  exact ⟨v, nm_r (by rw [e, pp_v1]) ⟨v, nm_r (by rw [e]) ⟨v, nm_r (by rw [e]) (hp h)⟩⟩⟩
theorem pp_yIns_f {post : Int32 → SY → Prop} {x y : Int32} (h : ¬ ∃ q, q < 256 ∧ x = nI q) (hp : post (-1) (t, H, K, V, C, L, G, E)) : wpY_insert post (t, H, K, V, C, L, G, E) x y := by
  unfold wpY_insert
  exact pp_yKey_f h (br_f (by decide) hp)
theorem pp_yIns {post : Int32 → SY → Prop} {q f : Nat} {y : Int32} (hq : q < 256) (hf : f ≤ 40) (h1 : ∀ j, j < f → ¬ H j = 0) (h2 : f < 40 → H f = 0)
    (hp : f < 40 → post (nI f) (t, upd H f 1, upd K f (nI q), upd V f y, C, L, G, E)) (hn : 40 ≤ f → post (-2) (t, H, K, V, C, L, G, E)) : wpY_insert post (t, H, K, V, C, L, G, E) (nI q) y := by
  unfold wpY_insert
  refine pp_yKey_t hq (br_t rfl ?_)
  refine pp_lp (fun n i => wY_insert_12 post (nI q) y t H K V C L G E n (nI i)) (fun _ => True) f 0 (Nat.zero_le _) trivial (fun n _ => ?_) (fun n i _ hi _ ih => ?_)
  · have e : (nI f).toNatClampNeg = f := nI_clamp (by omega)
    refine pk_le 40 f (fun h => hn h) (fun h => ?_)
    have v : vp_in (nI f) 40 := vp_in_nI h (by decide)
    exact ⟨v, br_t (by rw [e]; exact h2 h) ⟨v, nm_r (by rw [e, pp_v1]) ⟨v, nm_r (by rw [e]) ⟨v, nm_r (by rw [e]) (hp h)⟩⟩⟩⟩
  · have e : (nI i).toNatClampNeg = i := nI_clamp (by omega)
    exact pk_le 40 i (fun h => absurd h (by omega)) (fun h => ⟨vp_in_nI h (by decide), br_f (by rw [e]; exact h1 i hi) (nm_r (nI_1 i) (ih trivial))⟩)
theorem pp_xDel_f {post : Int32 → SX → Prop} {x : Int32} (h : ¬ ∃ j, j < 40 ∧ x = nI j ∧ ¬ H j = 0) (hp : post (-3) (p, t, H, K, V, B, L, G, E)) : wpX_delete post (p, t, H, K, V, B, L, G, E) x := by
  unfold wpX_delete
  exact pp_xRow_f h (br_t rfl hp)
theorem pp_xDel {post : Int32 → SX → Prop} {j : Nat} (hj : j < 40) (h : ¬ H j = 0) (hp : post (nI (pp_ct (fun o => decide (¬ upd H j 0 o = 0)) 40)) (p, t, upd H j 0, K, V, B, L, G, E)) : wpX_delete post (p, t, H, K, V, B, L, G, E) (nI j) := by
  have e : (nI j).toNatClampNeg = j := nI_clamp (by omega)
  unfold wpX_delete
  exact pp_xRow_t hj h (br_f (by decide) ⟨vp_in_nI hj (by decide), nm_r (by rw [e, pp_v0]) (pp_xRows hp)⟩)
theorem pp_yDel_f {post : Int32 → SY → Prop} {x : Int32} (h : ¬ ∃ j, j < 40 ∧ x = nI j ∧ ¬ H j = 0) (hp : post (-3) (t, H, K, V, C, L, G, E)) : wpY_delete post (t, H, K, V, C, L, G, E) x := by
  unfold wpY_delete
  exact pp_yRow_f h (br_f (by decide) hp)
theorem pp_yDl {post : Int32 → SY → Prop} (hp : post (nI (pp_ct (fun o => decide (¬ H o = 0)) 40)) (t, H, K, V, C, L, G, E)) : ∃ n, wY_delete_22 post t H K V C L G E n 0 0 := by
  have key : ∃ n, ∀ a, a = nI (pp_ct (fun j => decide (¬ H j = 0)) 0) → wY_delete_22 post t H K V C L G E n a (nI 0) := by
    refine pp_lp (fun n i => ∀ a, a = nI (pp_ct (fun j => decide (¬ H j = 0)) i) → wY_delete_22 post t H K V C L G E n a (nI i)) (fun _ => True) 40 0 (by omega) trivial (fun n _ a ea => ?_) (fun n i _ hi _ ih a ea => ?_)
    · subst ea
      exact pk_le 40 40 (fun _ => hp) (fun h => absurd h (by decide))
    · have e : (nI i).toNatClampNeg = i := nI_clamp (by omega)
      subst ea
      refine pk_le 40 i (fun h => absurd h (by omega)) (fun h => ⟨vp_in_nI h (by decide), br_c (fun z => nm_r (nI_1 i) (ih trivial _ ?_)) (fun z => nm_e (nm_r (nI_1 i) (ih trivial _ ?_)))⟩)
      · rw [e] at z
        rw [pp_ct_n (pp_dn z)]
      · rw [e] at z
        rw [pp_ct_y (pp_dy z), nI_1]
  obtain ⟨n, h⟩ := key
  exact ⟨n, h _ rfl⟩
theorem pp_yDel {post : Int32 → SY → Prop} {j : Nat} (hj : j < 40) (h : ¬ H j = 0) (hp : post (nI (pp_ct (fun o => decide (¬ upd H j 0 o = 0)) 40)) (t, upd H j 0, K, V, C, L, G, E)) : wpY_delete post (t, H, K, V, C, L, G, E) (nI j) := by
  have e : (nI j).toNatClampNeg = j := nI_clamp (by omega)
  unfold wpY_delete
  exact pp_yRow_t hj h (br_t rfl ⟨vp_in_nI hj (by decide), nm_r (by rw [e, pp_v0]) (pp_yDl hp)⟩)
theorem pp_xUpd_f {post : Int32 → SX → Prop} {x y z : Int32} (h : ¬ ∃ j, j < 40 ∧ x = nI j ∧ ¬ H j = 0) (hp : post (-3) (p, t, H, K, V, B, L, G, E)) : wpX_update post (p, t, H, K, V, B, L, G, E) x y z := by
  unfold wpX_update
  exact pp_xRow_f h (br_t rfl hp)
theorem pp_xUpd_k {post : Int32 → SX → Prop} {j : Nat} {y z : Int32} (hj : j < 40) (h : ¬ H j = 0) (hk : ¬ ∃ q, q < 256 ∧ y = nI q) (hp : post (-1) (p, t, H, K, V, B, L, G, E)) : wpX_update post (p, t, H, K, V, B, L, G, E) (nI j) y z := by
  unfold wpX_update
  exact pp_xRow_t hj h (br_f (by decide) (pp_xKey_f hk (br_t rfl hp)))
theorem pp_xUpd {post : Int32 → SX → Prop} {j q : Nat} {z : Int32} (hj : j < 40) (h : ¬ H j = 0) (hq : q < 256) (hp : post 0 (p, t, H, upd K j (nI q), upd V j z, B, L, G, E)) : wpX_update post (p, t, H, K, V, B, L, G, E) (nI j) (nI q) z := by
  have e : (nI j).toNatClampNeg = j := nI_clamp (by omega)
  have v : vp_in (nI j) 40 := vp_in_nI hj (by decide)
  unfold wpX_update
  exact pp_xRow_t hj h (br_f (by decide) (pp_xKey_t hq (br_f (by decide) ⟨v, nm_r (by rw [e]) ⟨v, nm_r (by rw [e]) hp⟩⟩)))
theorem pp_yUpd_f {post : Int32 → SY → Prop} {x y z : Int32} (h : ¬ ∃ j, j < 40 ∧ x = nI j ∧ ¬ H j = 0) (hp : post (-3) (t, H, K, V, C, L, G, E)) : wpY_update post (t, H, K, V, C, L, G, E) x y z := by
  unfold wpY_update
  exact pp_yRow_f h (br_f (by decide) hp)
theorem pp_yUpd_k {post : Int32 → SY → Prop} {j : Nat} {y z : Int32} (hj : j < 40) (h : ¬ H j = 0) (hk : ¬ ∃ q, q < 256 ∧ y = nI q) (hp : post (-1) (t, H, K, V, C, L, G, E)) : wpY_update post (t, H, K, V, C, L, G, E) (nI j) y z := by
  unfold wpY_update
  exact pp_yRow_t hj h (br_t rfl (pp_yKey_f hk (br_f (by decide) hp)))
theorem pp_yUpd {post : Int32 → SY → Prop} {j q : Nat} {z : Int32} (hj : j < 40) (h : ¬ H j = 0) (hq : q < 256) (hp : post 0 (t, H, upd K j (nI q), upd V j z, C, L, G, E)) : wpY_update post (t, H, K, V, C, L, G, E) (nI j) (nI q) z := by
  have e : (nI j).toNatClampNeg = j := nI_clamp (by omega)
  have v : vp_in (nI j) 40 := vp_in_nI hj (by decide)
  unfold wpY_update
  exact pp_yRow_t hj h (br_t rfl (pp_yKey_t hq (br_t rfl ⟨v, nm_r (by rw [e]) ⟨v, nm_r (by rw [e]) hp⟩⟩)))
theorem pp_xTrm {post : Int32 → SX → Prop} {x y z : Int32} (h4 : tc ≤ 4) (hn : tc = 4 → post (-2) (p, nI tc, H, K, V, B, L, G, E)) (hp : tc < 4 → post (nI (tc + 1)) (p, nI (tc + 1), H, K, V, B, upd L tc x, upd G tc y, upd E tc z)) : wpX_term post (p, nI tc, H, K, V, B, L, G, E) x y z := by
  have e : (nI tc).toNatClampNeg = tc := nI_clamp (by omega)
  unfold wpX_term
  refine pk_lt tc 4 (fun h => ?_) (fun h => hn (by omega))
  have v : vp_in (nI tc) 4 := vp_in_nI h (by decide)
  exact ⟨v, nm_r (by rw [e]) ⟨v, nm_r (by rw [e]) ⟨v, nm_r (by rw [e]) (nm_r (nI_1 tc) (hp h))⟩⟩⟩
theorem pp_yTrm {post : Int32 → SY → Prop} {x y z : Int32} (h4 : tc ≤ 4) (hn : tc = 4 → post (-2) (nI tc, H, K, V, C, L, G, E)) (hp : tc < 4 → post (nI (tc + 1)) (nI (tc + 1), H, K, V, C, upd L tc x, upd G tc y, upd E tc z)) : wpY_term post (nI tc, H, K, V, C, L, G, E) x y z := by
  have e : (nI tc).toNatClampNeg = tc := nI_clamp (by omega)
  unfold wpY_term
  refine pk_eq tc 4 (fun h => hn h) (fun h => ?_)
  have v : vp_in (nI tc) 4 := vp_in_nI (by omega) (by decide)
  exact ⟨v, nm_r (by rw [e]) ⟨v, nm_r (by rw [e]) ⟨v, nm_r (by rw [e]) (nm_r (nI_1 tc) (hp (by omega)))⟩⟩⟩
end
end
section
section
variable {p t : Int32} {H K V B L G E C : Nat → Int32} {b : Nat → Nat} {pc tc : Nat}
theorem pp_xTrc_f {post : Int32 → SX → Prop} {x : Int32} (h8 : pc ≤ 8) (h : ¬ ∃ j, j < pc ∧ x = nI j) (hp : post (-5) (nI pc, t, H, K, V, B, L, G, E)) : wpX_truncate post (nI pc, t, H, K, V, B, L, G, E) x := by
  unfold wpX_truncate
  exact pp_xPar_f h8 h (br_t rfl hp)
theorem pp_xTrc {post : Int32 → SX → Prop} {i : Nat} (J : pp_J K B C b pc tc) (hi : i < pc) (hp : post (nI (pp_ct (pp_ps H K C i) 40)) (nI pc, t, pp_tr H (pp_ps H K C i) 40, K, V, B, L, G, E)) : wpX_truncate post (nI pc, t, H, K, V, B, L, G, E) (nI i) := by
  have key : ∃ n, ∀ a A, a = nI (pp_ct (pp_ps H K C i) 0) → A = pp_tr H (pp_ps H K C i) 0 → wX_truncate_15 post (nI i) (nI pc) t n a (nI 0) A K V B L G E := by
    refine pp_lp (fun n j => ∀ a A, a = nI (pp_ct (pp_ps H K C i) j) → A = pp_tr H (pp_ps H K C i) j → wX_truncate_15 post (nI i) (nI pc) t n a (nI j) A K V B L G E) (fun _ => True) 40 0 (by omega) trivial (fun n _ a A ea eA => ?_) (fun n j _ hj _ ih a A ea eA => ?_)
    · subst ea eA
      exact pk_le 40 40 (fun _ => hp) (fun h => absurd h (by decide))
    · have e : (nI j).toNatClampNeg = j := nI_clamp (by omega)
      subst ea eA
      refine pk_le 40 j (fun h => absurd h (by omega)) (fun _ => pp_xLies J hj hi _ pp_tr_m (pp_br (fun h => ⟨vp_in_nI hj (by decide), nm_r (e' := pp_tr H (pp_ps H K C i) (j + 1)) ?_ (nm_e (nm_r (nI_1 j) (ih trivial _ _ ?_ rfl)))⟩) (fun h => nm_r (nI_1 j) (ih trivial _ _ ?_ ?_))))
      · rw [e, pp_v0, pp_tr_y h]
      · rw [pp_ct_y h, nI_1]
      · rw [pp_ct_n h]
      · rw [pp_tr_n h]
  obtain ⟨n, h⟩ := key
  unfold wpX_truncate
  exact pp_xPar_t J.1.2.1 hi (br_f (by decide) ⟨n, h _ _ rfl (pp_tr_0 _ _).symm⟩)
theorem pp_yTrc_f {post : Int32 → SY → Prop} {x : Int32} (hB : pp_Bd b pc C) (h : ¬ ∃ j, j < pc ∧ x = nI j) (hp : post (-5) (t, H, K, V, C, L, G, E)) : wpY_truncate post (t, H, K, V, C, L, G, E) x := by
  have h8 := hB.2.1
  unfold wpY_truncate
  rcases pp_cls x pc with a | ⟨j, hj, h31, rfl⟩ | ⟨j, hj, h31, rfl⟩
  · exact br_t a hp
  · exact br_f (nI_pos h31) (pp_yParts hB (pk_lt j pc (fun h => absurd h (by omega)) (fun _ => hp)))
  · exact absurd ⟨j, hj, rfl⟩ h
theorem pp_yTrc {post : Int32 → SY → Prop} {i : Nat} (hB : pp_Bd b pc C) (hK : pp_KR K) (hi : i < pc) (hp : post (nI (pp_ct (pp_ps H K C i) 40)) (t, pp_tr H (pp_ps H K C i) 40, K, V, C, L, G, E)) : wpY_truncate post (t, H, K, V, C, L, G, E) (nI i) := by
  have h8 := hB.2.1
  have key : ∃ n, ∀ A, A = pp_tr H (pp_ps H K C i) 0 → wY_truncate_23 post (nI i) (nI (pp_ct (pp_ps H K C i) 40)) t n (nI 0) A K V C L G E := by
    refine pp_lp (fun n j => ∀ A, A = pp_tr H (pp_ps H K C i) j → wY_truncate_23 post (nI i) (nI (pp_ct (pp_ps H K C i) 40)) t n (nI j) A K V C L G E) (fun _ => True) 40 0 (by omega) trivial (fun n _ A eA => ?_) (fun n j _ hj _ ih A eA => ?_)
    · subst eA
      exact pk_le 40 40 (fun _ => hp) (fun h => absurd h (by decide))
    · have e : (nI j).toNatClampNeg = j := nI_clamp (by omega)
      have vj : vp_in (nI j) 40 := vp_in_nI hj (by decide)
      obtain ⟨q, hq, eq⟩ := hK j hj
      have e2 : K (nI j).toNatClampNeg = nI q := by rw [e, eq]
      have lt := (pp_pt_s hB hq).2.1
      subst eA
      refine pk_le 40 j (fun h => absurd h (by omega)) (fun _ => ⟨vj, br_c (fun z => nm_r (nI_1 j) (ih trivial _ ?_)) (fun z => ⟨vj, ?_⟩)⟩)
      · rw [e, pp_tr_m] at z
        rw [pp_tr_n (by rw [pp_ps_n z]; decide)]
      · rw [e, pp_tr_m] at z
        have e3 : pp_ps H K C i j = decide (pp_pt C q = i) := by rw [pp_ps_y z, eq, nI_clamp (by omega)]
        rw [e2]
        refine pp_yPart hB hq (pk_eq (pp_pt C q) i (fun h => ⟨vj, nm_r (e' := pp_tr H (pp_ps H K C i) (j + 1)) ?_ (nm_r (nI_1 j) (ih trivial _ rfl))⟩) (fun h => nm_r (nI_1 j) (ih trivial _ ?_)))
        · rw [e, pp_v0, pp_tr_y (by rw [e3]; exact decide_eq_true h)]
        · rw [pp_tr_n (by rw [e3]; exact fun w => h (of_decide_eq_true w))]
  obtain ⟨n, h⟩ := key
  unfold wpY_truncate
  exact br_f (nI_pos (by omega)) (pp_yParts hB (pk_lt i pc (fun _ => pp_yRi_t hB hK hi ⟨n, h _ (pp_tr_0 _ _).symm⟩) (fun h => absurd h (by omega))))
theorem pp_xSpl_f {post : Int32 → SX → Prop} {x : Int32} (h : ¬ ∃ q, 1 ≤ q ∧ q < 256 ∧ x = nI q) (hp : post (-4) (p, t, H, K, V, B, L, G, E)) : wpX_split post (p, t, H, K, V, B, L, G, E) x := by
  unfold wpX_split
  rcases pp_cls x 256 with a | ⟨j, hj, h31, rfl⟩ | ⟨j, hj, h31, rfl⟩
  · exact br_t (Int32.lt_trans a (by decide)) hp
  · exact pk_lt j 1 (fun _ => hp) (fun _ => pk_le j 255 (fun h => absurd h (by omega)) (fun _ => hp))
  · rcases Nat.lt_or_ge j 1 with g | g
    · exact pk_lt j 1 (fun _ => hp) (fun h => absurd h (by omega))
    · exact absurd ⟨j, g, hj, rfl⟩ h
theorem pp_xSpl {post : Int32 → SX → Prop} {k : Nat} (J : pp_J K B C b pc tc) (k1 : 1 ≤ k) (hk : k < 256)
    (hb : b (pp_pt C k) = k → post (-4) (nI pc, t, H, K, V, B, L, G, E)) (hn : b (pp_pt C k) ≠ k → 8 ≤ pc → post (-2) (nI pc, t, H, K, V, B, L, G, E))
    (hp : b (pp_pt C k) ≠ k → pc < 8 → post (nI (pp_pt C k + 1)) (nI (pc + 1), t, H, K, V, upd (pp_sh B (pp_pt C k + 1) pc) (pp_pt C k + 1) (nI k), L, G, E)) : wpX_split post (nI pc, t, H, K, V, B, L, G, E) (nI k) := by
  have hB := J.1
  have h8 := hB.2.1
  obtain ⟨_, lt, _, _⟩ := pp_pt_s hB (by omega : k ≤ 255)
  have h5 := hB.2.2.2.2.1 _ lt
  have e : (nI (pp_pt C k)).toNatClampNeg = pp_pt C k := nI_clamp (by omega)
  have eb : B (nI (pp_pt C k)).toNatClampNeg = nI (b (pp_pt C k)) := by
    rw [e]
    exact J.2.1 _ lt
  unfold wpX_split
  refine pk_lt k 1 (fun h => absurd h (by omega)) (fun _ => pk_le k 255 (fun _ => ?_) (fun h => absurd h (by omega)))
  refine pp_xPo J (by omega) ⟨vp_in_nI (by omega) (by decide), pk_eq (b (pp_pt C k)) k (fun h => hb h) (fun h => pk_lt pc 8 (fun g => nm_r (nI_1 _) ?_) (fun g => hn h g)) eb rfl (by omega) (by omega)⟩ H K
  have key : ∃ n, ∀ A, A = pp_sh B pc pc → wX_split_56 post (nI k) (nI (pp_pt C k + 1)) (nI pc) t n (nI pc) H K V A L G E := by
    refine pp_lpd (fun n i => ∀ A, A = pp_sh B i pc → wX_split_56 post (nI k) (nI (pp_pt C k + 1)) (nI pc) t n (nI i) H K V A L G E) (fun _ => True) (pp_pt C k + 1) pc (by omega) trivial (fun n _ A eA => ?_) (fun n i hl hi _ ih A eA => ?_)
    · subst eA
      have e1 : (nI (pp_pt C k + 1)).toNatClampNeg = pp_pt C k + 1 := nI_clamp (by omega)
      exact pk_le (pp_pt C k + 1) (pp_pt C k + 1) (fun _ => ⟨vp_in_nI (by omega) (by decide), nm_r (by rw [e1]) (nm_r (nI_1 pc) (hp h g))⟩) (fun h => absurd h (Nat.lt_irrefl _))
    · subst eA
      have e1 : (nI (i + 1)).toNatClampNeg = i + 1 := nI_clamp (by omega)
      have e0 : (nI i).toNatClampNeg = i := nI_clamp (by omega)
      refine pk_le (i + 1) (pp_pt C k + 1) (fun h => absurd h (by omega)) (fun _ => ⟨?_, vp_in_nI (by omega) (by decide), nm_r (e' := pp_sh B i pc) ?_ (nm_r (pk_m1 i) (ih trivial _ rfl))⟩)
      · rw [nI_pred]
        exact vp_in_nI (by omega) (by decide)
      · rw [nI_pred, e1, e0]
        exact pp_sh_s (by omega)
  obtain ⟨n, h⟩ := key
  exact ⟨n, h _ (pp_sh_0 _ _).symm⟩
theorem pp_ySpl_f {post : Int32 → SY → Prop} {x : Int32} (h : ¬ ∃ q, 1 ≤ q ∧ q < 256 ∧ x = nI q) (hp : post (-4) (t, H, K, V, C, L, G, E)) : wpY_split post (t, H, K, V, C, L, G, E) x := by
  unfold wpY_split
  rcases pp_cls x 256 with a | ⟨j, hj, h31, rfl⟩ | ⟨j, hj, h31, rfl⟩
  · exact br_t (Int32.lt_trans a (by decide)) hp
  · exact pk_lt j 1 (fun _ => hp) (fun _ => pk_lt 255 j (fun _ => hp) (fun h => absurd h (by omega)))
  · rcases Nat.lt_or_ge j 1 with g | g
    · exact pk_lt j 1 (fun _ => hp) (fun h => absurd h (by omega))
    · exact absurd ⟨j, g, hj, rfl⟩ h
theorem pp_ySpl {post : Int32 → SY → Prop} {k : Nat} (hB : pp_Bd b pc C) (k1 : 1 ≤ k) (hk : k < 256)
    (hb : b (pp_pt C k) = k → post (-4) (t, H, K, V, C, L, G, E)) (hn : b (pp_pt C k) ≠ k → 8 ≤ pc → post (-2) (t, H, K, V, C, L, G, E))
    (hp : b (pp_pt C k) ≠ k → pc < 8 → post (nI (pp_pt C k + 1)) (t, H, K, V, upd C k 1, L, G, E)) : wpY_split post (t, H, K, V, C, L, G, E) (nI k) := by
  have h8 := hB.2.1
  have hk5 : k ≤ 255 := by omega
  obtain ⟨_, lt, le, gt⟩ := pp_pt_s hB hk5
  have e : (nI k).toNatClampNeg = k := nI_clamp (by omega)
  have vk : vp_in (nI k) 256 := vp_in_nI hk (by decide)
  unfold wpY_split
  refine pk_lt k 1 (fun h => absurd h (by omega)) (fun _ => pk_lt 255 k (fun h => absurd h (by omega)) (fun _ => ⟨vk, br_c (fun z => ?_) (fun z => ?_)⟩))
  · rw [e] at z
    have ne : b (pp_pt C k) ≠ k := fun w => (pp_C_pt hB hk5).mpr w z
    refine pp_yParts hB (pk_eq pc 8 (fun h => hn ne (by omega)) (fun h => ⟨vk, nm_r (e' := upd C k 1) ?_ ?_⟩))
    · rw [e, pp_v1]
    · have p8 : pc < 8 := by omega
      have l2 : b (pp_pt C k) < k := by omega
      refine pp_yPart (pp_split hB p8 hk5 (by decide) lt l2 gt) hk5 ?_
      rw [pp_split_pt hB p8 hk5 (by decide) lt l2 gt]
      exact hp ne p8
  · rw [e] at z
    exact hb ((pp_C_pt hB hk5).mp z)
theorem pp_xMrg_f {post : Int32 → SX → Prop} {x : Int32} (h1 : 1 ≤ pc) (h8 : pc ≤ 8) (h : ¬ ∃ i, i + 1 < pc ∧ x = nI i) (hp : post (-5) (nI pc, t, H, K, V, B, L, G, E)) : wpX_merge post (nI pc, t, H, K, V, B, L, G, E) x := by
  unfold wpX_merge
  rcases pp_cls x (pc - 1) with a | ⟨j, hj, h31, rfl⟩ | ⟨j, hj, h31, rfl⟩
  · exact br_t a hp
  · exact br_f (nI_pos h31) (pk_lt j (pc - 1) (fun h => absurd h (by omega)) (fun _ => hp) rfl (pk_sub (a := pc) (b := 1) h1))
  · exact absurd ⟨j, by omega, rfl⟩ h
theorem pp_xMrg {post : Int32 → SX → Prop} {i : Nat} (J : pp_J K B C b pc tc) (hi : i + 1 < pc)
    (hp : post (nI (pp_ct (pp_ps H K (upd C (b (i + 1)) 0) i) 40)) (nI (pc - 1), t, H, K, V, pp_sl B (i + 1) (pc - 1), L, G, E)) : wpX_merge post (nI pc, t, H, K, V, B, L, G, E) (nI i) := by
  have h1 := J.1.1
  have h8 := J.1.2.1
  have J2 : pp_J K (pp_sl B (i + 1) (pc - 1)) (upd C (b (i + 1)) 0) (pp_b2 b i) (pc - 1) tc := ⟨pp_merge J.1 hi, pp_sl_e J.2.1 hi, J.2.2⟩
  unfold wpX_merge
  refine br_f (nI_pos (by omega)) (pk_lt i (pc - 1) (fun _ => nm_r (pk_sub (a := pc) (b := 1) h1) (nm_r (nI_1 i) ?_)) (fun h => absurd h (by omega)) rfl (pk_sub (a := pc) (b := 1) h1))
  have key : ∃ n, ∀ A, A = pp_sl B (i + 1) (i + 1) → wX_merge_31 post (nI i) (nI (pc - 1)) t n (nI (i + 1)) H K V A L G E := by
    refine pp_lp (fun n j => ∀ A, A = pp_sl B (i + 1) j → wX_merge_31 post (nI i) (nI (pc - 1)) t n (nI j) H K V A L G E) (fun _ => True) (pc - 1) (i + 1) (by omega) trivial (fun n _ A eA => ?_) (fun n j hl hj _ ih A eA => ?_)
    · subst eA
      exact pk_le (pc - 1) (pc - 1) (fun _ => pp_xRop J2 (by omega) hp) (fun h => absurd h (Nat.lt_irrefl _))
    · subst eA
      have e1 : (nI (j + 1)).toNatClampNeg = j + 1 := nI_clamp (by omega)
      have e0 : (nI j).toNatClampNeg = j := nI_clamp (by omega)
      refine pk_le (pc - 1) j (fun h => absurd h (by omega)) (fun _ => ⟨?_, vp_in_nI (by omega) (by decide), nm_r (e' := pp_sl B (i + 1) (j + 1)) ?_ (nm_r (nI_1 j) (ih trivial _ rfl))⟩)
      · rw [nI_1]
        exact vp_in_nI (by omega) (by decide)
      · rw [nI_1, e1, e0]
        exact pp_sl_s (by omega)
  obtain ⟨n, h⟩ := key
  exact ⟨n, h _ (pp_sl_0 _ _).symm⟩
theorem pp_yMrg_f {post : Int32 → SY → Prop} {x : Int32} (hB : pp_Bd b pc C) (h : ¬ ∃ i, i + 1 < pc ∧ x = nI i) (hp : post (-5) (t, H, K, V, C, L, G, E)) : wpY_merge post (t, H, K, V, C, L, G, E) x := by
  have h1 := hB.1
  have h8 := hB.2.1
  unfold wpY_merge
  rcases pp_cls x (pc - 1) with a | ⟨j, hj, h31, rfl⟩ | ⟨j, hj, h31, rfl⟩
  · exact br_t a hp
  · exact br_f (nI_pos h31) (pp_yParts hB (pk_lt j (pc - 1) (fun h => absurd h (by omega)) (fun _ => hp) rfl (pk_sub (a := pc) (b := 1) h1)))
  · exact absurd ⟨j, by omega, rfl⟩ h
theorem pp_yMrg {post : Int32 → SY → Prop} {i : Nat} (hB : pp_Bd b pc C) (hK : pp_KR K) (hi : i + 1 < pc)
    (hp : post (nI (pp_ct (pp_ps H K (upd C (b (i + 1)) 0) i) 40)) (t, H, K, V, upd C (b (i + 1)) 0, L, G, E)) : wpY_merge post (t, H, K, V, C, L, G, E) (nI i) := by
  have h1 := hB.1
  have h8 := hB.2.1
  have h5 := hB.2.2.2.2.1 (i + 1) hi
  have e : (nI (b (i + 1))).toNatClampNeg = b (i + 1) := nI_clamp (by omega)
  unfold wpY_merge
  refine br_f (nI_pos (by omega)) (pp_yParts hB (pk_lt i (pc - 1) (fun _ => ?_) (fun h => absurd h (by omega)) rfl (pk_sub (a := pc) (b := 1) h1)))
  rw [nI_1]
  refine pp_yBound_t hB hi ⟨vp_in_nI (by omega) (by decide), nm_r (e' := upd C (b (i + 1)) 0) ?_ (pp_yRi_t (pp_merge hB hi) hK (by omega) hp)⟩
  rw [e, pp_v0]
end
end
section
def i_Rel (_ : Nat) (u : SX) (v : SY) : Prop := ∃ (H K V L G E B C : Nat → Int32) (b : Nat → Nat) (pc tc : Nat), u = (nI pc, nI tc, H, K, V, B, L, G, E) ∧ v = (nI tc, H, K, V, C, L, G, E) ∧ pp_J K B C b pc tc
theorem i_up {k : Nat} {u : SX} {v : SY} (h : i_Rel k u v) : i_Rel (k + 4) u v := h
theorem i_vc0 : wpX_init (fun u => wpY_init (fun v => i_Rel 0 u v)) := by
  unfold wpX_init wpY_init
  refine nm_r (e' := upd (fun _ => 0) 0 1) rfl ⟨fun _ => 0, fun _ => 0, fun _ => 0, fun _ => 0, fun _ => 0, fun _ => 0, fun _ => 0, upd (fun _ => 0) 0 1, fun _ => 0, 1, 0, rfl, rfl, ⟨by omega, by omega, rfl, fun i j a c => absurd c (by omega), fun i _ => by show 0 ≤ 255; omega, fun k hk => ?_⟩, fun i _ => rfl, by omega, fun id _ => ⟨0, by omega, rfl⟩⟩
  by_cases e : k = 0
  · rw [e, pk_us]
    exact ⟨fun _ => ⟨0, by omega, rfl⟩, fun _ => by decide⟩
  · rw [pk_un e]
    refine ⟨fun w => absurd rfl w, fun w => ?_⟩
    obtain ⟨i, hi, ei⟩ := w
    have q : 0 = k := ei
    omega
theorem i_vc_insert {k : Nat} {u : SX} {v : SY} (I : i_Rel k u v) (hk : k + 4 ≤ 2048) (v1 : Int32) (v2 : Int32) : wpX_insert (fun r u' => wpY_insert (fun r' v' => r' = r ∧ i_Rel (k + 4) u' v') v v1 v2) u v1 v2 := by
  obtain ⟨H, K, V, L, G, E, B, C, b, pc, tc, rfl, rfl, J⟩ := I
  by_cases h : ∃ q, q < 256 ∧ v1 = nI q
  · obtain ⟨q, hq, rfl⟩ := h
    obtain ⟨f, hf, h1, h2⟩ := pp_first (fun j => H j = 0) 40
    refine pp_xIns hq hf h1 h2 (fun h => pp_yIns hq hf h1 h2 (fun _ => ⟨rfl, ?_⟩) (fun g => absurd g (by omega))) (fun h => pp_yIns hq hf h1 h2 (fun g => absurd g (by omega)) (fun _ => ⟨rfl, ?_⟩))
    · exact ⟨upd H f 1, upd K f (nI q), upd V f v2, L, G, E, B, C, b, pc, tc, rfl, rfl, J.1, J.2.1, J.2.2.1, pp_KR_u J.2.2.2 (by omega)⟩
    · exact ⟨H, K, V, L, G, E, B, C, b, pc, tc, rfl, rfl, J⟩
  · exact pp_xIns_f h (pp_yIns_f h ⟨rfl, H, K, V, L, G, E, B, C, b, pc, tc, rfl, rfl, J⟩)
theorem i_vc_delete {k : Nat} {u : SX} {v : SY} (I : i_Rel k u v) (hk : k + 4 ≤ 2048) (v1 : Int32) : wpX_delete (fun r u' => wpY_delete (fun r' v' => r' = r ∧ i_Rel (k + 4) u' v') v v1) u v1 := by
  obtain ⟨H, K, V, L, G, E, B, C, b, pc, tc, rfl, rfl, J⟩ := I
  by_cases h : ∃ j, j < 40 ∧ v1 = nI j ∧ ¬ H j = 0
  · obtain ⟨j, hj, rfl, z⟩ := h
    exact pp_xDel hj z (pp_yDel hj z ⟨rfl, upd H j 0, K, V, L, G, E, B, C, b, pc, tc, rfl, rfl, J⟩)
  · exact pp_xDel_f h (pp_yDel_f h ⟨rfl, H, K, V, L, G, E, B, C, b, pc, tc, rfl, rfl, J⟩)
theorem i_vc_update {k : Nat} {u : SX} {v : SY} (I : i_Rel k u v) (hk : k + 4 ≤ 2048) (v1 : Int32) (v2 : Int32) (v3 : Int32) : wpX_update (fun r u' => wpY_update (fun r' v' => r' = r ∧ i_Rel (k + 4) u' v') v v1 v2 v3) u v1 v2 v3 := by
  obtain ⟨H, K, V, L, G, E, B, C, b, pc, tc, rfl, rfl, J⟩ := I
  by_cases h : ∃ j, j < 40 ∧ v1 = nI j ∧ ¬ H j = 0
  · obtain ⟨j, hj, rfl, z⟩ := h
    by_cases g : ∃ q, q < 256 ∧ v2 = nI q
    · obtain ⟨q, hq, rfl⟩ := g
      exact pp_xUpd hj z hq (pp_yUpd hj z hq ⟨rfl, H, upd K j (nI q), upd V j v3, L, G, E, B, C, b, pc, tc, rfl, rfl, J.1, J.2.1, J.2.2.1, pp_KR_u J.2.2.2 (by omega)⟩)
    · exact pp_xUpd_k hj z g (pp_yUpd_k hj z g ⟨rfl, H, K, V, L, G, E, B, C, b, pc, tc, rfl, rfl, J⟩)
  · exact pp_xUpd_f h (pp_yUpd_f h ⟨rfl, H, K, V, L, G, E, B, C, b, pc, tc, rfl, rfl, J⟩)
theorem i_vc_split {k : Nat} {u : SX} {v : SY} (I : i_Rel k u v) (hk : k + 4 ≤ 2048) (v1 : Int32) : wpX_split (fun r u' => wpY_split (fun r' v' => r' = r ∧ i_Rel (k + 4) u' v') v v1) u v1 := by
  obtain ⟨H, K, V, L, G, E, B, C, b, pc, tc, rfl, rfl, J⟩ := I
  have R : i_Rel (k + 4) (nI pc, nI tc, H, K, V, B, L, G, E) (nI tc, H, K, V, C, L, G, E) := ⟨H, K, V, L, G, E, B, C, b, pc, tc, rfl, rfl, J⟩
  by_cases h : ∃ q, 1 ≤ q ∧ q < 256 ∧ v1 = nI q
  · obtain ⟨q, q1, hq, rfl⟩ := h
    obtain ⟨_, lt, le, gt⟩ := pp_pt_s J.1 (by omega : q ≤ 255)
    refine pp_xSpl J q1 hq (fun a => ?_) (fun a c => ?_) (fun a c => ?_)
    · exact pp_ySpl J.1 q1 hq (fun _ => ⟨rfl, R⟩) (fun w _ => absurd a w) (fun w _ => absurd a w)
    · exact pp_ySpl J.1 q1 hq (fun w => absurd w a) (fun _ _ => ⟨rfl, R⟩) (fun _ w => absurd w (by omega))
    · refine pp_ySpl J.1 q1 hq (fun w => absurd w a) (fun _ w => absurd w (by omega)) (fun _ _ => ⟨rfl, ?_⟩)
      exact ⟨H, K, V, L, G, E, _, _, pp_b1 b (pp_pt C q) q, pc + 1, tc, rfl, rfl, pp_split J.1 c (by omega) (by decide) lt (by omega) gt, pp_sh_e J.2.1 lt, J.2.2⟩
  · exact pp_xSpl_f h (pp_ySpl_f h ⟨rfl, R⟩)
theorem i_vc_merge {k : Nat} {u : SX} {v : SY} (I : i_Rel k u v) (hk : k + 4 ≤ 2048) (v1 : Int32) : wpX_merge (fun r u' => wpY_merge (fun r' v' => r' = r ∧ i_Rel (k + 4) u' v') v v1) u v1 := by
  obtain ⟨H, K, V, L, G, E, B, C, b, pc, tc, rfl, rfl, J⟩ := I
  by_cases h : ∃ i, i + 1 < pc ∧ v1 = nI i
  · obtain ⟨i, hi, rfl⟩ := h
    refine pp_xMrg J hi (pp_yMrg J.1 J.2.2.2 hi ⟨rfl, ?_⟩)
    exact ⟨H, K, V, L, G, E, _, _, pp_b2 b i, pc - 1, tc, rfl, rfl, pp_merge J.1 hi, pp_sl_e J.2.1 hi, J.2.2⟩
  · exact pp_xMrg_f J.1.1 J.1.2.1 h (pp_yMrg_f J.1 h ⟨rfl, H, K, V, L, G, E, B, C, b, pc, tc, rfl, rfl, J⟩)
theorem i_vc_truncate {k : Nat} {u : SX} {v : SY} (I : i_Rel k u v) (hk : k + 4 ≤ 2048) (v1 : Int32) : wpX_truncate (fun r u' => wpY_truncate (fun r' v' => r' = r ∧ i_Rel (k + 4) u' v') v v1) u v1 := by
  obtain ⟨H, K, V, L, G, E, B, C, b, pc, tc, rfl, rfl, J⟩ := I
  by_cases h : ∃ i, i < pc ∧ v1 = nI i
  · obtain ⟨i, hi, rfl⟩ := h
    exact pp_xTrc J hi (pp_yTrc J.1 J.2.2.2 hi ⟨rfl, _, K, V, L, G, E, B, C, b, pc, tc, rfl, rfl, J⟩)
  · exact pp_xTrc_f J.1.2.1 h (pp_yTrc_f J.1 h ⟨rfl, H, K, V, L, G, E, B, C, b, pc, tc, rfl, rfl, J⟩)
theorem i_vc_clearTerms {k : Nat} {u : SX} {v : SY} (I : i_Rel k u v) (hk : k + 4 ≤ 2048) : wpX_clearTerms (fun u' => wpY_clearTerms (fun v' => i_Rel (k + 4) u' v') v) u := by
  obtain ⟨H, K, V, L, G, E, B, C, b, pc, tc, rfl, rfl, J⟩ := I
  unfold wpX_clearTerms wpY_clearTerms
  exact ⟨H, K, V, L, G, E, B, C, b, pc, 0, rfl, rfl, J.1, J.2.1, by omega, J.2.2.2⟩
theorem i_vc_term {k : Nat} {u : SX} {v : SY} (I : i_Rel k u v) (hk : k + 4 ≤ 2048) (v1 : Int32) (v2 : Int32) (v3 : Int32) : wpX_term (fun r u' => wpY_term (fun r' v' => r' = r ∧ i_Rel (k + 4) u' v') v v1 v2 v3) u v1 v2 v3 := by
  obtain ⟨H, K, V, L, G, E, B, C, b, pc, tc, rfl, rfl, J⟩ := I
  have h4 := J.2.2.1
  refine pp_xTrm h4 (fun h => pp_yTrm h4 (fun _ => ⟨rfl, H, K, V, L, G, E, B, C, b, pc, tc, rfl, rfl, J⟩) (fun g => absurd g (by omega))) (fun h => pp_yTrm h4 (fun g => absurd g (by omega)) (fun _ => ⟨rfl, ?_⟩))
  exact ⟨H, K, V, _, _, _, B, C, b, pc, tc + 1, rfl, rfl, J.1, J.2.1, by omega, J.2.2.2⟩
theorem i_vc_partitions {k : Nat} {u : SX} {v : SY} (I : i_Rel k u v) (hk : k + 4 ≤ 2048) : wpX_partitions (fun r => wpY_partitions (fun r' => r' = r ∧ i_Rel (k + 4) u v) v) u := by
  obtain ⟨H, K, V, L, G, E, B, C, b, pc, tc, rfl, rfl, J⟩ := I
  unfold wpX_partitions
  exact pp_yParts J.1 ⟨rfl, H, K, V, L, G, E, B, C, b, pc, tc, rfl, rfl, J⟩
theorem i_vc_bound {k : Nat} {u : SX} {v : SY} (I : i_Rel k u v) (hk : k + 4 ≤ 2048) (v1 : Int32) : wpX_bound (fun r => wpY_bound (fun r' => r' = r ∧ i_Rel (k + 4) u v) v v1) u v1 := by
  obtain ⟨H, K, V, L, G, E, B, C, b, pc, tc, rfl, rfl, J⟩ := I
  have R : i_Rel (k + 4) (nI pc, nI tc, H, K, V, B, L, G, E) (nI tc, H, K, V, C, L, G, E) := ⟨H, K, V, L, G, E, B, C, b, pc, tc, rfl, rfl, J⟩
  have h8 := J.1.2.1
  unfold wpX_bound
  by_cases h : ∃ i, i < pc ∧ v1 = nI i
  · obtain ⟨i, hi, rfl⟩ := h
    have e : B (nI i).toNatClampNeg = nI (b i) := by
      rw [nI_clamp (by omega)]
      exact J.2.1 i hi
    exact pp_xPar_t h8 hi (br_f (by decide) ⟨vp_in_nI (by omega) (by decide), pp_yBound_t J.1 hi ⟨e.symm, R⟩⟩)
  · exact pp_xPar_f h8 h (br_t rfl (pp_yBound_f J.1 h ⟨rfl, R⟩))
theorem i_vc_rowsIn {k : Nat} {u : SX} {v : SY} (I : i_Rel k u v) (hk : k + 4 ≤ 2048) (v1 : Int32) : wpX_rowsIn (fun r => wpY_rowsIn (fun r' => r' = r ∧ i_Rel (k + 4) u v) v v1) u v1 := by
  obtain ⟨H, K, V, L, G, E, B, C, b, pc, tc, rfl, rfl, J⟩ := I
  have R : i_Rel (k + 4) (nI pc, nI tc, H, K, V, B, L, G, E) (nI tc, H, K, V, C, L, G, E) := ⟨H, K, V, L, G, E, B, C, b, pc, tc, rfl, rfl, J⟩
  have h8 := J.1.2.1
  unfold wpX_rowsIn
  by_cases h : ∃ i, i < pc ∧ v1 = nI i
  · obtain ⟨i, hi, rfl⟩ := h
    exact pp_xPar_t h8 hi (br_f (by decide) (pp_xRop J hi (pp_yRi_t J.1 J.2.2.2 hi ⟨rfl, R⟩)))
  · exact pp_xPar_f h8 h (br_t rfl (pp_yRi_f J.1 h ⟨rfl, R⟩))
theorem i_vc_count {k : Nat} {u : SX} {v : SY} (I : i_Rel k u v) (hk : k + 4 ≤ 2048) : wpX_count (fun r => wpY_count (fun r' => r' = r ∧ i_Rel (k + 4) u v) v) u := by
  obtain ⟨H, K, V, L, G, E, B, C, b, pc, tc, rfl, rfl, J⟩ := I
  exact pp_xCount J.2.2.1 (pp_yCount J.2.2.1 ⟨rfl, H, K, V, L, G, E, B, C, b, pc, tc, rfl, rfl, J⟩)
theorem i_vc_sum {k : Nat} {u : SX} {v : SY} (I : i_Rel k u v) (hk : k + 4 ≤ 2048) : wpX_sum (fun r => wpY_sum (fun r' => r' = r ∧ i_Rel (k + 4) u v) v) u := by
  obtain ⟨H, K, V, L, G, E, B, C, b, pc, tc, rfl, rfl, J⟩ := I
  exact pp_xSum J.2.2.1 (pp_ySum J.2.2.1 ⟨rfl, H, K, V, L, G, E, B, C, b, pc, tc, rfl, rfl, J⟩)
theorem i_vc_match {k : Nat} {u : SX} {v : SY} (I : i_Rel k u v) (hk : k + 4 ≤ 2048) (v1 : Int32) : wpX_match (fun r => wpY_match (fun r' => r' = r ∧ i_Rel (k + 4) u v) v v1) u v1 := by
  obtain ⟨H, K, V, L, G, E, B, C, b, pc, tc, rfl, rfl, J⟩ := I
  obtain ⟨f, hf, h1, h2⟩ := pp_first (fun j => pp_fit H K V L G E tc j = true ∧ nI (pp_bf K (pp_fit H K V L G E tc) j) = v1) 40
  exact pp_xMatch J.2.2.1 hf h1 h2 (pp_yMatch J.2.2.1 hf h1 h2 ⟨rfl, H, K, V, L, G, E, B, C, b, pc, tc, rfl, rfl, J⟩)
theorem i_vc_pairs {k : Nat} {u : SX} {v : SY} (I : i_Rel k u v) (hk : k + 4 ≤ 2048) : wpX_pairs (fun r => wpY_pairs (fun r' => r' = r ∧ i_Rel (k + 4) u v) v) u := by
  obtain ⟨H, K, V, L, G, E, B, C, b, pc, tc, rfl, rfl, J⟩ := I
  refine pp_xPairs J.2.2.1 (pp_yPairs J.2.2.1 ⟨?_, H, K, V, L, G, E, B, C, b, pc, tc, rfl, rfl, J⟩)
  rw [pp_prs]
theorem i_vc_touched {k : Nat} {u : SX} {v : SY} (I : i_Rel k u v) (hk : k + 4 ≤ 2048) : wpX_touched (fun r => wpY_touched (fun r' => r' = r ∧ i_Rel (k + 4) u v) v) u := by
  obtain ⟨H, K, V, L, G, E, B, C, b, pc, tc, rfl, rfl, J⟩ := I
  refine pp_xTou J (pp_yTou J.1 J.2.2.2 J.2.2.1 ⟨?_, H, K, V, L, G, E, B, C, b, pc, tc, rfl, rfl, J⟩)
  rw [pp_tou8 J.1 J.2.2.2]
end
