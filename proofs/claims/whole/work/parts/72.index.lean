/-! numbers of standings -/
def WB (B : Nat → Nat) (j : Nat) : Nat := B j + 1
/-- the class's number: the first vat is the fastest -/
def ixK (W m : Nat → Nat) : Nat → Nat
  | 0 => 0
  | k + 1 => ixK W m k + prB W k * m k
def tlK (W m : Nat → Nat) : Nat → Nat
  | 0 => 0
  | k + 1 => m (5 - k) + W (5 - k) * tlK W m k
def ixN (B m : Nat → Nat) : Nat := tlK (WB B) m 6
/-- the reference's: the last vat is the fastest -/
def imK (W m : Nat → Nat) : Nat → Nat
  | 0 => 0
  | k + 1 => imK W m k * W k + m k
def imN (B m : Nat → Nat) : Nat := imK (WB B) m 6
theorem ix_tl (W m : Nat → Nat) : ∀ k, k ≤ 6 → ixK W m (6 - k) + prB W (6 - k) * tlK W m k = ixK W m 6
  | 0, _ => by rw [show tlK W m 0 = 0 from rfl, Nat.mul_zero, Nat.add_zero]
  | k + 1, hk => by
    rw [← ix_tl W m k (by omega), show 6 - k = (6 - (k + 1)) + 1 by omega]
    show ixK W m (6 - (k + 1)) + prB W (6 - (k + 1)) * (m (5 - k) + W (5 - k) * tlK W m k) = (ixK W m (6 - (k + 1)) + prB W (6 - (k + 1)) * m (6 - (k + 1))) + (prB W (6 - (k + 1)) * W (6 - (k + 1))) * tlK W m k
    rw [show 6 - (k + 1) = 5 - k by omega, Nat.mul_add, Nat.mul_assoc, Nat.add_assoc]
theorem ix_6 (B m : Nat → Nat) : ixK (WB B) m 6 = ixN B m := by
  have := ix_tl (WB B) m 6 (Nat.le_refl _)
  rw [← this]
  show 0 + 1 * tlK (WB B) m 6 = ixN B m
  rw [Nat.one_mul, Nat.zero_add]
  rfl
theorem tl_lt {B m : Nat → Nat} (h : MB B m) : ∀ k, k ≤ 6 → tlK (WB B) m k * prB (WB B) (6 - k) + prB (WB B) (6 - k) ≤ prB (WB B) 6
  | 0, _ => by rw [show tlK (WB B) m 0 = 0 from rfl, Nat.zero_mul, Nat.zero_add]; exact Nat.le_refl _
  | k + 1, hk => by
    have ih := tl_lt h k (by omega)
    have h1 := (h (5 - k) (by omega)).1
    rw [show 6 - k = (5 - k) + 1 by omega] at ih
    have ih : tlK (WB B) m k * (prB (WB B) (5 - k) * WB B (5 - k)) + prB (WB B) (5 - k) * WB B (5 - k) ≤ prB (WB B) 6 := ih
    rw [show 6 - (k + 1) = 5 - k by omega]
    show (m (5 - k) + WB B (5 - k) * tlK (WB B) m k) * prB (WB B) (5 - k) + prB (WB B) (5 - k) ≤ _
    have e1 : tlK (WB B) m k * (prB (WB B) (5 - k) * WB B (5 - k)) = WB B (5 - k) * tlK (WB B) m k * prB (WB B) (5 - k) := by
      rw [Nat.mul_comm (prB (WB B) (5 - k)) (WB B (5 - k)), ← Nat.mul_assoc, Nat.mul_comm (tlK (WB B) m k)]
    have e2 : m (5 - k) * prB (WB B) (5 - k) + prB (WB B) (5 - k) ≤ prB (WB B) (5 - k) * WB B (5 - k) := by
      rw [← Nat.succ_mul, Nat.mul_comm]
      exact Nat.mul_le_mul_left _ (by unfold WB; omega)
    rw [Nat.add_mul]
    omega
theorem ixN_lt {B m : Nat → Nat} (h : MB B m) : ixN B m < prB (WB B) 6 := by
  have := tl_lt h 6 (Nat.le_refl _)
  have e : prB (WB B) (6 - 6) = 1 := rfl
  rw [e, Nat.mul_one] at this
  unfold ixN
  omega
theorem tl_inj {B m m' : Nat → Nat} (h : MB B m) (h' : MB B m') : ∀ k, k ≤ 6 → tlK (WB B) m k = tlK (WB B) m' k → ∀ j, 6 - k ≤ j → j < 6 → m j = m' j
  | 0, _, _, j, h1, h2 => absurd h2 (by omega)
  | k + 1, hk, e, j, h1, h2 => by
    have a1 := (h (5 - k) (by omega)).1
    have a2 := (h' (5 - k) (by omega)).1
    have e : m (5 - k) + (B (5 - k) + 1) * tlK (WB B) m k = m' (5 - k) + (B (5 - k) + 1) * tlK (WB B) m' k := e
    have e1 := congrArg (· % (B (5 - k) + 1)) e
    simp only [Nat.add_mul_mod_self_left] at e1
    rw [Nat.mod_eq_of_lt (by omega), Nat.mod_eq_of_lt (by omega)] at e1
    rw [e1] at e
    have e2 : tlK (WB B) m k = tlK (WB B) m' k := Nat.eq_of_mul_eq_mul_left (show 0 < B (5 - k) + 1 by omega) (by omega)
    rcases Nat.lt_or_ge j (6 - k) with z | z
    · rw [show j = 5 - k by omega]; exact e1
    · exact tl_inj h h' k (by omega) e2 j z h2
theorem ixN_inj {B m m' : Nat → Nat} (h : okM B m) (h' : okM B m') (e : ixN B m = ixN B m') : m = m' := by
  funext j
  rcases Nat.lt_or_ge j 6 with z | z
  · exact tl_inj h.1 h'.1 6 (Nat.le_refl _) e j (by omega) z
  · rw [h.2 j z, h'.2 j z]
theorem im_lt {B m : Nat → Nat} (h : MB B m) : ∀ k, k ≤ 6 → imK (WB B) m k < prB (WB B) k
  | 0, _ => Nat.zero_lt_one
  | k + 1, hk => by
    have ih := im_lt h k (by omega)
    have h1 := (h k (by omega)).1
    show imK (WB B) m k * WB B k + m k < prB (WB B) k * WB B k
    have g3 : (imK (WB B) m k + 1) * WB B k ≤ prB (WB B) k * WB B k := Nat.mul_le_mul_right _ ih
    rw [Nat.succ_mul] at g3
    have : m k < WB B k := by unfold WB; omega
    omega
theorem im_inj {B m m' : Nat → Nat} (h : MB B m) (h' : MB B m') : ∀ k, k ≤ 6 → imK (WB B) m k = imK (WB B) m' k → ∀ j, j < k → m j = m' j
  | 0, _, _, j, h2 => absurd h2 (by omega)
  | k + 1, hk, e, j, h2 => by
    have a1 := (h k (by omega)).1
    have a2 := (h' k (by omega)).1
    have e : imK (WB B) m k * (B k + 1) + m k = imK (WB B) m' k * (B k + 1) + m' k := e
    have e1 := congrArg (· % (B k + 1)) e
    simp only [Nat.mul_comm _ (B k + 1), Nat.mul_add_mod] at e1
    rw [Nat.mod_eq_of_lt (by omega), Nat.mod_eq_of_lt (by omega)] at e1
    rw [e1] at e
    have e2 : imK (WB B) m k = imK (WB B) m' k := Nat.eq_of_mul_eq_mul_right (show 0 < B k + 1 by omega) (by omega)
    rcases Nat.lt_or_ge j k with z | z
    · exact im_inj h h' k (by omega) e2 j z
    · rw [show j = k by omega]; exact e1
theorem imN_lt {B m : Nat → Nat} (h : MB B m) : imN B m < prB (WB B) 6 := im_lt h 6 (Nat.le_refl _)
theorem imN_inj {B m m' : Nat → Nat} (h : okM B m) (h' : okM B m') (e : imN B m = imN B m') : m = m' := by
  funext j
  rcases Nat.lt_or_ge j 6 with z | z
  · exact im_inj h.1 h'.1 6 (Nat.le_refl _) e j z
  · rw [h.2 j z, h'.2 j z]
/-- holes and doves -/
theorem pigeon : ∀ (N k : Nat) (f : Nat → Nat), (∀ i, i < k → f i < N) → (∀ i j, i < k → j < k → f i = f j → i = j) → k ≤ N
  | 0, k, f, h1, _ => by
    rcases Nat.eq_zero_or_pos k with z | z
    · omega
    · exact absurd (h1 0 z) (by omega)
  | N + 1, k, f, h1, h2 => by
    rcases Nat.eq_zero_or_pos k with z | z
    · omega
    · have := pigeon N (k - 1) (fun j => if f j = N then f (k - 1) else f j) (fun i hi => by
        show (if f i = N then f (k - 1) else f i) < N
        by_cases e : f i = N
        · rw [if_pos e]
          have a1 := h1 (k - 1) (by omega)
          have a2 : f (k - 1) ≠ N := fun e2 => by have := h2 i (k - 1) (by omega) (by omega) (e.trans e2.symm); omega
          omega
        · rw [if_neg e]; have := h1 i (by omega); omega) (fun i j hi hj e => by
        have e : (if f i = N then f (k - 1) else f i) = (if f j = N then f (k - 1) else f j) := e
        by_cases ei : f i = N
        · by_cases ej : f j = N
          · exact h2 i j (by omega) (by omega) (ei.trans ej.symm)
          · rw [if_pos ei, if_neg ej] at e
            have := h2 (k - 1) j (by omega) (by omega) e
            omega
        · by_cases ej : f j = N
          · rw [if_neg ei, if_pos ej] at e
            have := h2 i (k - 1) (by omega) (by omega) e
            omega
          · rw [if_neg ei, if_neg ej] at e
            exact h2 i j (by omega) (by omega) e)
      omega
section IDX
variable {B : Nat → Nat} {b : Nat → Int32}
theorem brim1 (hb : R6 b B) {j : Nat} (hj : j < 6) : b j + 1 = nI (WB B j) := by rw [hb j hj, nI_p]; rfl
theorem W_lt (hB : ∀ j, j < 6 → B j ≤ 99) {j : Nat} (hj : j < 6) : WB B j ≤ 100 ∧ 0 < WB B j := by unfold WB; have := hB j hj; omega
/-- the class's standings: the weights, and how many; 0: too many -/
theorem x_stand (hb : R6 b B) (hB : ∀ j, j < 6 → B j ≤ 99) : ∀ (fu i : Nat) (y5 : Nat → Int32), i ≤ 6 → 7 ≤ fu + i → prB (WB B) i ≤ 20000 → (∀ j, j < i → y5 j = nI (prB (WB B) j)) → (∃ y5', g_X3_standings_4 fu (nI (prB (WB B) i)) (nI i) y5 b = some (nI (prB (WB B) 6), y5') ∧ prB (WB B) 6 ≤ 20000 ∧ R6 y5' (prB (WB B))) ∨ (∃ y5', g_X3_standings_4 fu (nI (prB (WB B) i)) (nI i) y5 b = some (0, y5') ∧ ¬ prB (WB B) 6 ≤ 20000) := by
  intro fu
  induction fu with
  | zero => intro i y5 h1 h2; omega
  | succ fu ih =>
    intro i y5 h1 h2 hp hy
    simp only [g_X3_standings_4]
    rcases Nat.lt_or_ge i 6 with hi | hi
    · obtain ⟨w1, w2⟩ := W_lt hB hi
      have hm : prB (WB B) i * WB B i ≤ 20000 * 100 := Nat.mul_le_mul hp w1
      rw [if_neg (c6_le hi), if_pos (vin_nI hi (by omega)), nc i (by omega), brim1 hb hi, pk_mul, nI_s, show (20000 : Int32) = nI 20000 from rfl, ite_le (by omega) (by omega)]
      by_cases h : prB (WB B) i * WB B i ≤ 20000
      · rw [if_pos h]
        refine ih (i + 1) _ (by omega) (by omega) h (fun j hj => ?_)
        by_cases hji : j = i
        · subst hji; rw [upd_same]
        · rw [upd_ne hji]; exact hy j (by omega)
      · rw [if_neg h]
        refine Or.inr ⟨_, rfl, fun hh => h ?_⟩
        have key : ∀ k, i + 1 + k ≤ 6 → prB (WB B) (i + 1) ≤ prB (WB B) (i + 1 + k) := by
          intro k
          induction k with
          | zero => intro _; exact Nat.le_refl _
          | succ k ihk =>
            intro hk
            have a1 := ihk (by omega)
            have a2 := (W_lt hB (show i + 1 + k < 6 by omega)).2
            show _ ≤ prB (WB B) (i + 1 + k) * WB B (i + 1 + k)
            have : prB (WB B) (i + 1 + k) * 1 ≤ prB (WB B) (i + 1 + k) * WB B (i + 1 + k) := Nat.mul_le_mul_left _ a2
            omega
        have := key (5 - i) (by omega)
        rw [show i + 1 + (5 - i) = 6 by omega] at this
        have e : prB (WB B) (i + 1) = prB (WB B) i * WB B i := rfl
        omega
    · have hi6 : i = 6 := by omega
      subst hi6
      rw [if_pos c6_ge]
      exact Or.inl ⟨y5, rfl, hp, hy⟩
theorem x_index (m : Nat → Nat) {y5 y : Nat → Int32} (h5 : R6 y5 (prB (WB B))) (hy : R6 y m) : ∀ (fu i : Nat), i ≤ 6 → 7 ≤ fu + i → g_X3_indexOfx_4 fu (nI (ixK (WB B) m i)) (nI i) y5 y = some (nI (ixN B m)) := by
  intro fu
  induction fu with
  | zero => intro i h1 h2; omega
  | succ fu ih =>
    intro i h1 h2
    simp only [g_X3_indexOfx_4]
    rcases Nat.lt_or_ge i 6 with hi | hi
    · rw [if_neg (c6_le hi), if_pos (vin_nI hi (by omega)), nc i (by omega), h5 i hi, hy i hi, pk_mul, nI_add, nI_s]
      exact ih (i + 1) (by omega) (by omega)
    · have hi6 : i = 6 := by omega
      subst hi6
      rw [if_pos c6_ge, ix_6]
theorem x_indexF (m : Nat → Nat) {y5 y : Nat → Int32} (h5 : R6 y5 (prB (WB B))) (hy : R6 y m) : f_X3_indexOfx y5 y = some (nI (ixN B m)) := x_index m h5 hy FU 0 (by omega) (by unfold FU; omega)
theorem x_indext (m : Nat → Nat) {y5 y : Nat → Int32} (h5 : R6 y5 (prB (WB B))) (hy : R6 y m) : ∀ (fu i : Nat), i ≤ 6 → 7 ≤ fu + i → g_X3_indexOft_4 fu (nI (ixK (WB B) m i)) (nI i) y y5 = some (nI (ixN B m)) := by
  intro fu
  induction fu with
  | zero => intro i h1 h2; omega
  | succ fu ih =>
    intro i h1 h2
    simp only [g_X3_indexOft_4]
    rcases Nat.lt_or_ge i 6 with hi | hi
    · rw [if_neg (c6_le hi), if_pos (vin_nI hi (by omega)), nc i (by omega), h5 i hi, hy i hi, pk_mul, nI_add, nI_s]
      exact ih (i + 1) (by omega) (by omega)
    · have hi6 : i = 6 := by omega
      subst hi6
      rw [if_pos c6_ge, ix_6]
theorem x_indextF (m : Nat → Nat) {y5 y : Nat → Int32} (h5 : R6 y5 (prB (WB B))) (hy : R6 y m) : f_X3_indexOft y y5 = some (nI (ixN B m)) := x_indext m h5 hy FU 0 (by omega) (by unfold FU; omega)
theorem x_unfold (hb : R6 b B) (hB : ∀ j, j < 6 → B j ≤ 99) {m : Nat → Nat} (hm : MB B m) (hN : prB (WB B) 6 ≤ 20000) : ∀ (fu k : Nat) (y : Nat → Int32), k ≤ 6 → k < fu → (∀ j, j < 6 - k → y j = nI (m j)) → ∃ y', g_X3_unfold_4 fu (nI (tlK (WB B) m k)) (nI (6 - k)) y b = some y' ∧ R6 y' m := by
  intro fu
  induction fu with
  | zero => intro k y h1 h2; omega
  | succ fu ih =>
    intro k y h1 h2 hy
    simp only [g_X3_unfold_4]
    cases k with
    | zero => rw [if_pos c6_ge]; exact ⟨y, rfl, hy⟩
    | succ k =>
      have hk : 5 - k < 6 := by omega
      obtain ⟨w1, w2⟩ := W_lt hB hk
      have hmk := (hm _ hk).1
      have htl := tl_lt hm (k + 1) h1
      have hpos : 0 < prB (WB B) (6 - (k + 1)) := by
        have : ∀ i, i ≤ 6 → 0 < prB (WB B) i := by
          intro i
          induction i with
          | zero => intro _; exact Nat.zero_lt_one
          | succ i ihi => intro hi; exact Nat.mul_pos (ihi (by omega)) (W_lt hB (show i < 6 by omega)).2
        exact this _ (by omega)
      have htl2 : tlK (WB B) m (k + 1) ≤ tlK (WB B) m (k + 1) * prB (WB B) (6 - (k + 1)) := Nat.le_mul_of_pos_right _ hpos
      rw [show 6 - (k + 1) = 5 - k by omega, if_neg (c6_le hk), if_pos (vin_nI hk (by omega)), nc _ (by omega), brim1 hb hk, if_neg (by rw [show (0 : Int32) = nI 0 from rfl, nI_leI (by omega) (by omega)]; omega), if_neg (by rw [show (0 : Int32) = nI 0 from rfl, nI_eq (by omega) (by omega)]; omega)]
      unfold g_X3_unfold_41
      rw [if_pos (vin_nI hk (by omega)), if_neg (by rw [show (0 : Int32) = nI 0 from rfl, nI_leI (by omega) (by omega)]; omega), if_neg (by rw [show (0 : Int32) = nI 0 from rfl, nI_eq (by omega) (by omega)]; omega), rem32 (by omega) w2 (by omega) _ rfl, div32 (by omega) w2 (by omega) _ rfl, nc _ (by omega), nI_s, show 5 - k + 1 = 6 - k by omega]
      have em : tlK (WB B) m (k + 1) % WB B (5 - k) = m (5 - k) := by
        show (m (5 - k) + WB B (5 - k) * tlK (WB B) m k) % WB B (5 - k) = _
        rw [Nat.add_mul_mod_self_left]
        exact Nat.mod_eq_of_lt (by unfold WB; omega)
      have ed : tlK (WB B) m (k + 1) / WB B (5 - k) = tlK (WB B) m k := by
        show (m (5 - k) + WB B (5 - k) * tlK (WB B) m k) / WB B (5 - k) = _
        rw [Nat.add_mul_div_left _ _ w2, Nat.div_eq_of_lt (by unfold WB; omega), Nat.zero_add]
      rw [em, ed]
      refine ih k _ (by omega) (by omega) (fun j hj => ?_)
      by_cases hjk : j = 5 - k
      · subst hjk; rw [upd_same]
      · rw [upd_ne hjk]; exact hy j (by omega)
theorem m_standOf (hb : R6 b B) {m : Nat → Nat} {y : Nat → Int32} (hy : R6 y m) : ∀ (fu i : Nat), i ≤ 6 → 7 ≤ fu + i → g_X12_standingOf_4 fu (nI (imK (WB B) m i)) (nI i) b y = some (nI (imN B m)) := by
  intro fu
  induction fu with
  | zero => intro i h1 h2; omega
  | succ fu ih =>
    intro i h1 h2
    simp only [g_X12_standingOf_4]
    rcases Nat.lt_or_ge i 6 with hi | hi
    · rw [if_neg (c6_le hi), if_pos (vin_nI hi (by omega)), nc i (by omega), brim1 hb hi, hy i hi, pk_mul, nI_add, nI_s]
      exact ih (i + 1) (by omega) (by omega)
    · have hi6 : i = 6 := by omega
      subst hi6
      rw [if_pos c6_ge]
      rfl
theorem m_standOfF (hb : R6 b B) {m : Nat → Nat} {y : Nat → Int32} (hy : R6 y m) : f_X12_standingOf b y = some (nI (imN B m)) := m_standOf hb hy FU 0 (by omega) (by unfold FU; omega)
theorem m_standsA (hb : R6 b B) (hB : ∀ j, j < 6 → B j ≤ 99) {m : Nat → Nat} (hm : MB B m) (hN : prB (WB B) 6 ≤ 20000) : ∀ (fu k : Nat) (y : Nat → Int32), k ≤ 6 → k < fu → imK (WB B) m k ≤ 20000 → (∀ j, k ≤ j → j < 6 → y j = nI (m j)) → ∃ y', g_X12_standsAt_4 fu (nI (imK (WB B) m k)) (nI k - 1) b y = some y' ∧ R6 y' m := by
  intro fu
  induction fu with
  | zero => intro k y h1 h2; omega
  | succ fu ih =>
    intro k y h1 h2 hle hy
    simp only [g_X12_standsAt_4]
    cases k with
    | zero => rw [if_pos (by decide)]; exact ⟨y, rfl, fun j hj => hy j (Nat.zero_le _) hj⟩
    | succ k =>
      have hk : k < 6 := by omega
      obtain ⟨w1, w2⟩ := W_lt hB hk
      have hmk := (hm _ hk).1
      rw [show nI (k + 1) - 1 = nI k from nI_m (by omega), if_neg (c0_lt (by omega)), if_pos (vin_nI hk (by omega)), nc _ (by omega), brim1 hb hk, if_neg (by rw [show (0 : Int32) = nI 0 from rfl, nI_eq (by omega) (by omega)]; omega), rem32 (by omega) w2 (by omega) _ rfl, div32 (by omega) w2 (by omega) _ rfl, nI_neg1]
      have em : imK (WB B) m (k + 1) % WB B k = m k := by
        show (imK (WB B) m k * WB B k + m k) % WB B k = _
        rw [Nat.mul_comm, Nat.mul_add_mod]
        exact Nat.mod_eq_of_lt (by unfold WB; omega)
      have ed : imK (WB B) m (k + 1) / WB B k = imK (WB B) m k := by
        show (imK (WB B) m k * WB B k + m k) / WB B k = _
        rw [Nat.add_comm, Nat.mul_comm, Nat.add_mul_div_left _ _ w2, Nat.div_eq_of_lt (by unfold WB; omega), Nat.zero_add]
      rw [em, ed]
      have hle2 : imK (WB B) m k ≤ imK (WB B) m k * WB B k := Nat.le_mul_of_pos_right _ w2
      have hle3 : imK (WB B) m (k + 1) = imK (WB B) m k * WB B k + m k := rfl
      refine ih k _ (by omega) (by omega) (by omega) (fun j hj hj6 => ?_)
      by_cases hjk : j = k
      · subst hjk; rw [upd_same]
      · rw [upd_ne hjk]; exact hy j (by omega) hj6
theorem m_standsAF (hb : R6 b B) (hB : ∀ j, j < 6 → B j ≤ 99) {m : Nat → Nat} (hm : MB B m) (hN : prB (WB B) 6 ≤ 20000) (y : Nat → Int32) : ∃ y', f_X12_standsAt (nI (imN B m)) b y = some y' ∧ R6 y' m :=
  m_standsA hb hB hm hN FU 6 y (by omega) (by unfold FU; omega) (by have := imN_lt hm; unfold imN at this; omega) (fun j h1 h2 => absurd h2 (by omega))
end IDX
