/-- the bounds with k put in behind the t-th -/
def pp_b1 (b : Nat → Nat) (t k : Nat) : Nat → Nat := fun j => if j ≤ t then b j else if j = t + 1 then k else b (j - 1)
theorem pp_b1_lo {b : Nat → Nat} {t k j : Nat} (h : j ≤ t) : pp_b1 b t k j = b j := if_pos h
theorem pp_b1_eq {b : Nat → Nat} {t k : Nat} : pp_b1 b t k (t + 1) = k := by
  unfold pp_b1
  rw [if_neg (by omega), if_pos rfl]
theorem pp_b1_hi {b : Nat → Nat} {t k j : Nat} (h : t + 1 < j) : pp_b1 b t k j = b (j - 1) := by
  unfold pp_b1
  rw [if_neg (by omega), if_neg (by omega)]
theorem pp_split {b : Nat → Nat} {pc : Nat} {C : Nat → Int32} {k t : Nat} {x : Int32} (h : pp_Bd b pc C) (h8 : pc < 8) (hk : k ≤ 255) (hx : ¬ x = 0) (ht : t < pc) (h1 : b t < k) (h2 : ∀ i, t < i → i < pc → k < b i) :
    pp_Bd (pp_b1 b t k) (pc + 1) (upd C k x) := by
  obtain ⟨g1, g8, g0, gm, gb, gc⟩ := h
  have le : ∀ i, i ≤ t → b i ≤ b t := by
    intro i hi
    rcases Nat.lt_or_ge i t with g | g
    · have q := gm i t g ht
      omega
    · have q : i = t := by omega
      rw [q]; exact Nat.le_refl _
  refine ⟨by omega, by omega, ?_, ?_, ?_, ?_⟩
  · rw [pp_b1_lo (Nat.zero_le _)]; exact g0
  · intro i j hij hj
    rcases Nat.lt_trichotomy j (t + 1) with a | a | a
    · rw [pp_b1_lo (by omega), pp_b1_lo (by omega)]
      exact gm i j hij (by omega)
    · rw [a, pp_b1_eq, pp_b1_lo (by omega)]
      have q := le i (by omega)
      omega
    · rw [pp_b1_hi (j := j) a]
      have kj := h2 (j - 1) (by omega) (by omega)
      rcases Nat.lt_trichotomy i (t + 1) with c | c | c
      · rw [pp_b1_lo (by omega)]
        have q := le i (by omega)
        omega
      · rw [c, pp_b1_eq]; exact kj
      · rw [pp_b1_hi c]
        exact gm (i - 1) (j - 1) (by omega) (by omega)
  · intro i hi
    rcases Nat.lt_trichotomy i (t + 1) with c | c | c
    · rw [pp_b1_lo (by omega)]
      exact gb i (by omega)
    · rw [c, pp_b1_eq]; exact hk
    · rw [pp_b1_hi c]
      exact gb (i - 1) (by omega)
  · intro q hq
    by_cases e : q = k
    · rw [e, pk_us]
      exact ⟨fun _ => ⟨t + 1, by omega, pp_b1_eq⟩, fun _ => hx⟩
    · rw [pk_un e]
      refine (gc q hq).trans ⟨fun w => ?_, fun w => ?_⟩
      · obtain ⟨i, hi, ei⟩ := w
        rcases Nat.lt_or_ge t i with c | c
        · refine ⟨i + 1, by omega, ?_⟩
          rw [pp_b1_hi (by omega), Nat.add_sub_cancel]; exact ei
        · refine ⟨i, by omega, ?_⟩
          rw [pp_b1_lo c]; exact ei
      · obtain ⟨i, hi, ei⟩ := w
        rcases Nat.lt_trichotomy i (t + 1) with c | c | c
        · rw [pp_b1_lo (by omega)] at ei
          exact ⟨i, by omega, ei⟩
        · rw [c, pp_b1_eq] at ei
          exact absurd ei.symm e
        · rw [pp_b1_hi c] at ei
          exact ⟨i - 1, by omega, ei⟩
theorem pp_split_pt {b : Nat → Nat} {pc : Nat} {C : Nat → Int32} {k t : Nat} {x : Int32} (h : pp_Bd b pc C) (h8 : pc < 8) (hk : k ≤ 255) (hx : ¬ x = 0) (ht : t < pc) (h1 : b t < k) (h2 : ∀ i, t < i → i < pc → k < b i) :
    pp_pt (upd C k x) k = t + 1 := by
  refine pp_pt_u (pp_split h h8 hk hx ht h1 h2) hk (by omega) (by rw [pp_b1_eq]; exact Nat.le_refl _) (fun i hi hp => ?_)
  rw [pp_b1_hi hi]
  exact h2 (i - 1) (by omega) (by omega)
/-- the bounds without the one behind the i-th -/
def pp_b2 (b : Nat → Nat) (i : Nat) : Nat → Nat := fun j => if j ≤ i then b j else b (j + 1)
theorem pp_b2_lo {b : Nat → Nat} {i j : Nat} (h : j ≤ i) : pp_b2 b i j = b j := if_pos h
theorem pp_b2_hi {b : Nat → Nat} {i j : Nat} (h : i < j) : pp_b2 b i j = b (j + 1) := if_neg (by omega)
theorem pp_merge {b : Nat → Nat} {pc : Nat} {C : Nat → Int32} {i : Nat} (h : pp_Bd b pc C) (hi : i + 1 < pc) : pp_Bd (pp_b2 b i) (pc - 1) (upd C (b (i + 1)) 0) := by
  obtain ⟨g1, g8, g0, gm, gb, gc⟩ := h
  refine ⟨by omega, by omega, ?_, ?_, ?_, ?_⟩
  · rw [pp_b2_lo (Nat.zero_le _)]; exact g0
  · intro p q hpq hq
    rcases Nat.lt_or_ge i q with c | c
    · rw [pp_b2_hi c]
      rcases Nat.lt_or_ge i p with d | d
      · rw [pp_b2_hi d]; exact gm _ _ (by omega) (by omega)
      · rw [pp_b2_lo d]; exact gm _ _ (by omega) (by omega)
    · rw [pp_b2_lo c, pp_b2_lo (by omega)]; exact gm _ _ hpq (by omega)
  · intro p hp
    rcases Nat.lt_or_ge i p with d | d
    · rw [pp_b2_hi d]; exact gb _ (by omega)
    · rw [pp_b2_lo d]; exact gb _ (by omega)
  · intro q hq
    by_cases e : q = b (i + 1)
    · rw [e, pk_us]
      refine ⟨fun w => absurd rfl w, fun w => ?_⟩
      obtain ⟨j, hj, ej⟩ := w
      rcases Nat.lt_or_ge i j with d | d
      · rw [pp_b2_hi d] at ej
        have z := gm (i + 1) (j + 1) (by omega) (by omega)
        omega
      · rw [pp_b2_lo d] at ej
        have z := gm j (i + 1) (by omega) (by omega)
        omega
    · rw [pk_un e]
      refine (gc q hq).trans ⟨fun w => ?_, fun w => ?_⟩
      · obtain ⟨j, hj, ej⟩ := w
        rcases Nat.lt_trichotomy j (i + 1) with d | d | d
        · exact ⟨j, by omega, by rw [pp_b2_lo (by omega)]; exact ej⟩
        · rw [d] at ej
          exact absurd ej.symm e
        · refine ⟨j - 1, by omega, ?_⟩
          rw [pp_b2_hi (by omega), Nat.sub_add_cancel (by omega)]; exact ej
      · obtain ⟨j, hj, ej⟩ := w
        rcases Nat.lt_or_ge i j with d | d
        · rw [pp_b2_hi d] at ej
          exact ⟨j + 1, by omega, ej⟩
        · rw [pp_b2_lo d] at ej
          exact ⟨j, by omega, ej⟩
/-- split's shift, done down to i -/
def pp_sh (B : Nat → Int32) (i pc : Nat) : Nat → Int32 := fun j => if i < j ∧ j ≤ pc then B (j - 1) else B j
theorem pp_sh_n {B : Nat → Int32} {i pc j : Nat} (h : ¬ (i < j ∧ j ≤ pc)) : pp_sh B i pc j = B j := if_neg h
theorem pp_sh_y {B : Nat → Int32} {i pc j : Nat} (h : i < j ∧ j ≤ pc) : pp_sh B i pc j = B (j - 1) := if_pos h
theorem pp_sh_0 (B : Nat → Int32) (pc : Nat) : pp_sh B pc pc = B := by
  funext j
  exact pp_sh_n (by omega)
theorem pp_sh_s {B : Nat → Int32} {i pc : Nat} (h : i + 1 ≤ pc) : upd (pp_sh B (i + 1) pc) (i + 1) (pp_sh B (i + 1) pc i) = pp_sh B i pc := by
  funext j
  by_cases e : j = i + 1
  · rw [e, pk_us, pp_sh_n (by omega), pp_sh_y (by omega), Nat.add_sub_cancel]
  · rw [pk_un e]
    by_cases c : i < j ∧ j ≤ pc
    · rw [pp_sh_y c, pp_sh_y (by omega)]
    · rw [pp_sh_n c, pp_sh_n (by omega)]
theorem pp_sh_e {B : Nat → Int32} {b : Nat → Nat} {t pc k : Nat} (h : ∀ i, i < pc → B i = nI (b i)) (ht : t < pc) : ∀ j, j < pc + 1 → upd (pp_sh B (t + 1) pc) (t + 1) (nI k) j = nI (pp_b1 b t k j) := by
  intro j hj
  rcases Nat.lt_trichotomy j (t + 1) with c | c | c
  · rw [pk_un (by omega), pp_sh_n (by omega), pp_b1_lo (by omega)]
    exact h j (by omega)
  · rw [c, pk_us, pp_b1_eq]
  · rw [pk_un (by omega), pp_sh_y (by omega), pp_b1_hi c]
    exact h (j - 1) (by omega)
/-- merge's shift, done from a up to j -/
def pp_sl (B : Nat → Int32) (a j : Nat) : Nat → Int32 := fun q => if a ≤ q ∧ q < j then B (q + 1) else B q
theorem pp_sl_n {B : Nat → Int32} {a j q : Nat} (h : ¬ (a ≤ q ∧ q < j)) : pp_sl B a j q = B q := if_neg h
theorem pp_sl_y {B : Nat → Int32} {a j q : Nat} (h : a ≤ q ∧ q < j) : pp_sl B a j q = B (q + 1) := if_pos h
theorem pp_sl_0 (B : Nat → Int32) (a : Nat) : pp_sl B a a = B := by
  funext q
  exact pp_sl_n (by omega)
theorem pp_sl_s {B : Nat → Int32} {a j : Nat} (h : a ≤ j) : upd (pp_sl B a j) j (pp_sl B a j (j + 1)) = pp_sl B a (j + 1) := by
  funext q
  by_cases e : q = j
  · rw [e, pk_us, pp_sl_n (by omega), pp_sl_y (by omega)]
  · rw [pk_un e]
    by_cases c : a ≤ q ∧ q < j
    · rw [pp_sl_y c, pp_sl_y (by omega)]
    · rw [pp_sl_n c, pp_sl_n (by omega)]
theorem pp_sl_e {B : Nat → Int32} {b : Nat → Nat} {i pc : Nat} (h : ∀ i, i < pc → B i = nI (b i)) (hi : i + 1 < pc) : ∀ q, q < pc - 1 → pp_sl B (i + 1) (pc - 1) q = nI (pp_b2 b i q) := by
  intro q hq
  rcases Nat.lt_or_ge i q with c | c
  · rw [pp_sl_y (by omega), pp_b2_hi c]
    exact h (q + 1) (by omega)
  · rw [pp_sl_n (by omega), pp_b2_lo c]
    exact h q (by omega)
