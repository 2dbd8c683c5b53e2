/-! the beginning and the end of the search -/
theorem fill_x (N : Nat) (hN : N ≤ 20000) : ∀ (fu i : Nat) (y : Nat → Int32), i ≤ N → N - i < fu → ∃ y', g_J7_fill_fda19_10 fu (nI N) 0 (nI i) y = some y' ∧ (∀ j, i ≤ j → j < N → y' j = 0) ∧ ∀ j, j < i → y' j = y j := by
  intro fu
  induction fu with
  | zero => intro i y h1 h2; omega
  | succ fu ih =>
    intro i y h1 h2
    simp only [g_J7_fill_fda19_10]
    rw [ite_le (by omega) (by omega)]
    by_cases h : N ≤ i
    · rw [if_pos h]; exact ⟨y, rfl, fun j h3 h4 => by omega, fun _ _ => rfl⟩
    · rw [if_neg h, if_pos (vin_nI (by omega) (by omega)), nc i (by omega), nI_s]
      obtain ⟨y', t1, t2, t3⟩ := ih (i + 1) (upd y i 0) (by omega) (by omega)
      refine ⟨y', t1, fun j h3 h4 => ?_, fun j hj => ?_⟩
      · by_cases hji : j = i
        · subst hji; rw [t3 j (by omega), upd_same]
        · exact t2 j (by omega) h4
      · rw [t3 j (by omega), upd_ne (by omega)]
theorem fill_F {N : Nat} (hN : N ≤ 20000) (y : Nat → Int32) : ∃ y', f_J7_fill_fda19 0 (nI N) 0 y = some y' ∧ ∀ j, j < N → y' j = 0 := by
  obtain ⟨y', t1, t2, -⟩ := fill_x N hN FU 0 y (by omega) (by unfold FU; omega)
  refine ⟨y', ?_, fun j hj => t2 j (Nat.zero_le _) hj⟩
  unfold f_J7_fill_fda19 g_J7_fill_fda19_0 f_J7_rangeCheck_23922 g_J7_rangeCheck_23922_0
  rw [if_pos (show (0 : Int32) ≤ nI N from (nI_leI (a := 0) (by omega) (by omega)).mpr (by omega)), if_pos (show (0 : Int32) ≤ 0 by decide), if_pos (show nI N ≤ 20000 from (nI_leI (b := 20000) (by omega) (by omega)).mpr (by omega)), Option.bind_some]
  exact t1
theorem m_zero (v1 v2 : Int32) (y4 y5 y36 : Nat → Int32) (x39 x40 x41 : Int32) (y49 y50 y51 y52 : Nat → Int32) : ∀ (fu i : Nat) (y54 : Nat → Int32), i ≤ 20000 → 20000 - i < fu → (∀ j, j < i → y54 j = 0) → ∃ y54', (∀ j, j < 20000 → y54' j = 0) ∧ g_X12_goesThrough_2 fu v1 v2 (nI i) y4 y5 y36 x39 x40 x41 y49 y50 y51 y52 y54 = (if vin v1 20000 = true then (if v1 = v2 then some (0, y36, x39, x40, x41, (upd y49 (0 : Int32).toNatClampNeg v1), y50, y51, (upd y52 (0 : Int32).toNatClampNeg 0), (upd y54' v1.toNatClampNeg 1)) else g_X12_goesThrough_55 FU v2 1 0 y4 y5 y36 x39 x40 x41 (upd y49 (0 : Int32).toNatClampNeg v1) y50 y51 (upd y52 (0 : Int32).toNatClampNeg 0) (upd y54' v1.toNatClampNeg 1)) else none) := by
  intro fu
  induction fu with
  | zero => intro i y54 h1 h2; omega
  | succ fu ih =>
    intro i y54 h1 h2 hy
    simp only [g_X12_goesThrough_2]
    rcases Nat.lt_or_ge i 20000 with hi | hi
    · rw [if_neg (show ¬ (20000 : Int32) ≤ nI i from fun h => by have := (nI_leI (a := 20000) (by omega) (by omega)).mp h; omega), if_pos (vin_nI hi (by omega)), nc i (by omega), nI_s]
      refine ih (i + 1) _ (by omega) (by omega) (fun j hj => ?_)
      by_cases hji : j = i
      · subst hji; rw [upd_same]
      · rw [upd_ne hji]; exact hy j (by omega)
    · have : i = 20000 := by omega
      subst this
      rw [if_pos (by decide)]
      exact ⟨y54, hy, rfl⟩
theorem JB_0 {B m : Nat → Nat} (hm : okM B m) (hN : prB (WB B) 6 ≤ 20000) {y9 y54 : Nat → Int32} (h9 : ∀ j, j < prB (WB B) 6 → y9 j = 0) (h54 : ∀ j, j < 20000 → y54 j = 0) (y10 y49 y50 y51 y52 : Nat → Int32) : JB B 1 (fun _ => (m, 0, 0, 0)) (upd y9 (ixN B m) (-1)) (upd y10 0 (nI (ixN B m))) (upd y49 0 (nI (imN B m))) y50 y51 (upd y52 0 0) (upd y54 (imN B m) 1) := by
  refine ⟨⟨by omega, fun _ _ => hm⟩, fun i j hi hj _ => by omega, fun i hi => ?_, fun m' hm' hf => ?_, fun i hi => ?_, fun i h1 h2 => by omega, rfl⟩
  · rw [show i = 0 by omega, upd_same, upd_same, upd_same]; exact ⟨rfl, rfl, rfl⟩
  · have h0 : m ≠ m' := hf 0 (by omega)
    have h1 := imN_lt hm'.1
    rw [upd_ne (fun e => h0 (ixN_inj hm' hm e).symm), upd_ne (fun e => h0 (imN_inj hm' hm e).symm), h9 _ (ixN_lt hm'.1), h54 _ (by omega)]
    exact ⟨rfl, by decide⟩
  · rw [upd_same, upd_same]; exact ⟨by decide, rfl⟩
theorem m_can4 {B : Nat → Nat} {b y48 : Nat → Int32} (hb : R6 b B) (hB : ∀ j, j < 6 → B j ≤ 99) : ∀ (fu i : Nat), i ≤ 6 → 7 ≤ fu + i → prB (WB B) i ≤ 20000 → (prB (WB B) 6 ≤ 20000 → g_X12_canGoThrough_4 fu (nI (prB (WB B) i)) (nI i) b y48 = g_X12_canGoThrough_38 FU 0 b y48) ∧ (¬ prB (WB B) 6 ≤ 20000 → g_X12_canGoThrough_4 fu (nI (prB (WB B) i)) (nI i) b y48 = some 0) := by
  intro fu
  induction fu with
  | zero => intro i h1 h2; omega
  | succ fu ih =>
    intro i h1 h2 hp
    simp only [g_X12_canGoThrough_4]
    rcases Nat.lt_or_ge i 6 with hi | hi
    · obtain ⟨w1, w2⟩ := W_lt hB hi
      have hm : prB (WB B) i * WB B i ≤ 20000 * 100 := Nat.mul_le_mul hp w1
      rw [if_neg (c6_le hi), if_pos (vin_nI hi (by omega)), nc i (by omega), brim1 hb hi, pk_mul, nI_s, show (20000 : Int32) = nI 20000 from rfl, ite_le (by omega) (by omega)]
      by_cases h : prB (WB B) i * WB B i ≤ 20000
      · rw [if_pos h]
        exact ih (i + 1) (by omega) (by omega) h
      · rw [if_neg h]
        refine ⟨fun hh => absurd ?_ h, fun _ => rfl⟩
        have key : ∀ k, i + 1 + k ≤ 6 → prB (WB B) (i + 1) ≤ prB (WB B) (i + 1 + k) := by
          intro k
          induction k with
          | zero => intro _; exact Nat.le_refl _
          | succ k ihk =>
            intro hk
            have a1 := ihk (by omega)
            have a2 := (W_lt hB (show i + 1 + k < 6 by omega)).2
            show _ ≤ prB (WB B) (i + 1 + k) * WB B (i + 1 + k)
            have : prB (WB B) (i + 1 + k) * 1 ≤ prB (WB B) (i + 1 + k) * WB B (i + 1 + k) := Nat.mul_le_mul_left _ a2
            omega
        have := key (5 - i) (by omega)
        rw [show i + 1 + (5 - i) = 6 by omega] at this
        have e : prB (WB B) (i + 1) = prB (WB B) i * WB B i := rfl
        omega
    · have hi6 : i = 6 := by omega
      subst hi6
      rw [if_pos c6_ge]
      exact ⟨fun _ => rfl, fun h => absurd hp h⟩
theorem m_can38 (b y : Nat → Int32) : ∀ (fu i : Nat), i ≤ 6 → 7 ≤ fu + i → ((∀ j, i ≤ j → j < 6 → inR 0 (b j) (y j)) → g_X12_canGoThrough_38 fu (nI i) b y = some 1) ∧ ((¬ ∀ j, i ≤ j → j < 6 → inR 0 (b j) (y j)) → g_X12_canGoThrough_38 fu (nI i) b y = some 0) := by
  intro fu
  induction fu with
  | zero => intro i h1 h2; omega
  | succ fu ih =>
    intro i h1 h2
    simp only [g_X12_canGoThrough_38]
    rcases Nat.lt_or_ge i 6 with hi | hi
    · rw [if_neg (c6_le hi), if_pos (vin_nI hi (by omega)), nc i (by omega), m_in, Option.bind_some, nI_s]
      obtain ⟨q1, q2⟩ := ih (i + 1) (by omega) (by omega)
      by_cases h : (0 : Int32) ≤ y i ∧ y i ≤ b i
      · rw [if_pos h, if_neg (by decide)]
        refine ⟨fun hh => q1 (fun j hj hj6 => hh j (by omega) hj6), fun hh => q2 (fun hj => hh (fun j hj1 hj6 => ?_))⟩
        rcases Nat.lt_or_ge i j with q | q
        · exact hj j q hj6
        · rw [show j = i by omega]; exact h
      · rw [if_neg h, if_pos rfl]
        exact ⟨fun hh => absurd (hh i (Nat.le_refl _) hi) h, fun _ => rfl⟩
    · have hi6 : i = 6 := by omega
      subst hi6
      rw [if_pos c6_ge]
      exact ⟨fun _ => rfl, fun hh => absurd (fun j h3 h4 => absurd h4 (by omega)) hh⟩
/-- whether the search may be begun: both alike -/
def canB (B : Nat → Nat) (b t : Nat → Int32) : Prop := prB (WB B) 6 ≤ 20000 ∧ ∀ j, j < 6 → inR 0 (b j) (t j)
theorem x_can {B : Nat → Nat} {b t : Nat → Int32} (hb : R6 b B) (hB : ∀ j, j < 6 → B j ≤ 99) (ht : ∀ j, inR (-128) 127 (t j)) (y y5 : Nat → Int32) : (canB B b t → ∃ y5', f_X3_canSeek (cpI 0 (fun j => t j &&& 255) y) y5 b = some (1, y5')) ∧ (¬ canB B b t → ∃ y5', f_X3_canSeek (cpI 0 (fun j => t j &&& 255) y) y5 b = some (0, y5')) := by
  have hs := x_stand hb hB FU 0 y5 (by omega) (by unfold FU; omega) (show 1 ≤ 20000 by omega) (fun j hj => absurd hj (by omega))
  have hpos : 0 < prB (WB B) 6 := by
    have := imN_lt (B := B) (m := fun _ => 0) (fun j hj => ⟨Nat.zero_le _, hB j hj⟩)
    omega
  obtain ⟨h1, h2⟩ := hold_x b (cpI 0 (fun j => t j &&& 255) y) FU 0 (by omega) (by unfold FU; omega)
  have hiff : (∀ j, 0 ≤ j → j < 6 → cpI 0 (fun j => t j &&& 255) y j ≤ b j) ↔ ∀ j, j < 6 → inR 0 (b j) (t j) := by
    constructor
    · intro hh j hj
      have := hh j (Nat.zero_le _) hj
      rw [cpI_lt hj] at this
      have this : t j &&& 255 ≤ b j := this
      rcases byt_cases (ht j) with q | q
      · rw [q.2] at this; exact ⟨q.1, this⟩
      · have q2 := q.2
        have b9 := hB j hj
        rw [hb j hj] at this
        rw [i_lt] at q2
        rw [i_le, nI_toInt (by omega)] at this
        have e99 : (99 : Int32).toInt = 99 := rfl
        omega
    · intro hh j _ hj
      rw [cpI_lt hj]
      show t j &&& 255 ≤ b j
      rcases byt_cases (ht j) with q | q
      · rw [q.2]; exact (hh j hj).2
      · exact absurd (hh j hj).1 q.1
  unfold f_X3_canSeek g_X3_canSeek_0
  rcases hs with ⟨y5', e1, e2, e3⟩ | ⟨y5', e1, e2⟩
  · have e1' : f_X3_standings y5 b = some (nI (prB (WB B) 6), y5') := e1
    rw [e1', Option.bind_some]
    dsimp only
    rw [if_neg (show ¬ nI (prB (WB B) 6) ≤ 0 from fun h => by have := (nI_leI (b := 0) (by omega) (by omega)).mp h; omega)]
    refine ⟨fun hc => ?_, fun hc => ?_⟩
    · have h1' : f_X10_hold b (cpI 0 (fun j => t j &&& 255) y) = some 1 := h1 (hiff.mpr hc.2)
      rw [h1', Option.bind_some, if_neg (by decide)]
      exact ⟨y5', rfl⟩
    · have h2' : f_X10_hold b (cpI 0 (fun j => t j &&& 255) y) = some 0 := h2 (fun hh => hc ⟨e2, hiff.mp hh⟩)
      rw [h2', Option.bind_some, if_pos rfl]
      exact ⟨y5', rfl⟩
  · have e1' : f_X3_standings y5 b = some (0, y5') := e1
    rw [e1', Option.bind_some]
    dsimp only
    rw [if_pos (show (0 : Int32) ≤ 0 by decide)]
    exact ⟨fun hc => absurd hc.1 e2, fun _ => ⟨y5', rfl⟩⟩
theorem m_can {B : Nat → Nat} {b t : Nat → Int32} (hb : R6 b B) (hB : ∀ j, j < 6 → B j ≤ 99) (y : Nat → Int32) (hy : ∀ j, j < 6 → y j = t j) : (canB B b t → f_X12_canGoThrough b y = some 1) ∧ (¬ canB B b t → f_X12_canGoThrough b y = some 0) := by
  obtain ⟨h1, h2⟩ := m_can4 (y48 := y) hb hB FU 0 (by omega) (by unfold FU; omega) (show 1 ≤ 20000 by omega)
  obtain ⟨h3, h4⟩ := m_can38 b y FU 0 (by omega) (by unfold FU; omega)
  have h3' : (∀ j, 0 ≤ j → j < 6 → inR 0 (b j) (y j)) → g_X12_canGoThrough_38 FU 0 b y = some 1 := h3
  have h4' : (¬ ∀ j, 0 ≤ j → j < 6 → inR 0 (b j) (y j)) → g_X12_canGoThrough_38 FU 0 b y = some 0 := h4
  refine ⟨fun hc => (h1 hc.1).trans (h3' (fun j _ hj => by rw [hy j hj]; exact hc.2 j hj)), fun hc => ?_⟩
  by_cases hp : prB (WB B) 6 ≤ 20000
  · exact (h1 hp).trans (h4' (fun hh => hc ⟨hp, fun j hj => by rw [← hy j hj]; exact hh j (Nat.zero_le _) hj⟩))
  · exact h2 hp
section MSH
variable {y4 y5 y6 y7 y36 y48 y49 y50 y51 y52 y53 y54 : Nat → Int32} {v1 x8 x39 x40 x41 : Int32}
theorem m_sh29 : ∀ (fu i : Nat) (y48 : Nat → Int32), i ≤ 6 → 7 ≤ fu + i → g_X12_shortest_29 fu v1 (nI i) y4 y5 y6 y7 x8 y36 x39 x40 x41 y48 y49 y50 y51 y52 y53 y54 = (f_X12_canGoThrough y5 (cpI i y7 y48)).bind (fun u1 => (if u1 = 0 then some ((-3), x8, y36, x39, x40, x41, cpI i y7 y48, y49, y50, y51, y52, y53, y54) else g_X12_shortest_65 FU v1 0 y4 y5 y6 y7 x8 y36 x39 x40 x41 (cpI i y7 y48) y49 y50 y51 y52 y53 y54)) := by
  intro fu
  induction fu with
  | zero => intro i y48 h1 h2; omega
  | succ fu ih =>
    intro i y48 h1 h2
    simp only [g_X12_shortest_29]
    rcases Nat.lt_or_ge i 6 with hi | hi
    · rw [if_neg (c6_le hi), if_pos (vin_nI (show i < 160 by omega) (by omega)), if_pos (vin_nI hi (by omega)), nc i (by omega), nI_s, ih (i + 1) _ (by omega) (by omega), cpI_step hi]
    · have hi6 : i = 6 := by omega
      subst hi6
      rw [if_pos c6_ge, cpI_6]
theorem m_sh65 : ∀ (fu i : Nat) (y36 : Nat → Int32), i ≤ 6 → 7 ≤ fu + i → g_X12_shortest_65 fu v1 (nI i) y4 y5 y6 y7 x8 y36 x39 x40 x41 y48 y49 y50 y51 y52 y53 y54 = (f_X12_standingOf y5 (cpI i y48 y36)).bind (fun u1 => g_X12_shortest_96 FU v1 u1 0 y4 y5 y6 y7 x8 (cpI i y48 y36) x39 x40 x41 y48 y49 y50 y51 y52 y53 y54) := by
  intro fu
  induction fu with
  | zero => intro i y36 h1 h2; omega
  | succ fu ih =>
    intro i y36 h1 h2
    simp only [g_X12_shortest_65]
    rcases Nat.lt_or_ge i 6 with hi | hi
    · rw [if_neg (c6_le hi), if_pos (vin_nI hi (by omega)), nc i (by omega), nI_s, ih (i + 1) _ (by omega) (by omega), cpI_step hi]
    · have hi6 : i = 6 := by omega
      subst hi6
      rw [if_pos c6_ge, cpI_6]
theorem m_sh96 (v2 : Int32) (F : Int32 → (Nat → Int32) → Option (Int32 × Int32 × (Nat → Int32) × Int32 × Int32 × Int32 × (Nat → Int32) × (Nat → Int32) × (Nat → Int32) × (Nat → Int32) × (Nat → Int32) × (Nat → Int32) × (Nat → Int32))) (hF : ∀ (fu : Nat) (y : Nat → Int32), g_X12_shortest_96 (fu + 1) v1 v2 (nI 6) y4 y5 y6 y7 x8 y x39 x40 x41 y48 y49 y50 y51 y52 y53 y54 = F v2 y) : ∀ (fu i : Nat) (y36 : Nat → Int32), i ≤ 6 → 7 ≤ fu + i → g_X12_shortest_96 fu v1 v2 (nI i) y4 y5 y6 y7 x8 y36 x39 x40 x41 y48 y49 y50 y51 y52 y53 y54 = F v2 (cpI i y6 y36) := by
  intro fu
  induction fu with
  | zero => intro i y36 h1 h2; omega
  | succ fu ih =>
    intro i y36 h1 h2
    rcases Nat.lt_or_ge i 6 with hi | hi
    · have e : g_X12_shortest_96 (fu + 1) v1 v2 (nI i) y4 y5 y6 y7 x8 y36 x39 x40 x41 y48 y49 y50 y51 y52 y53 y54 = g_X12_shortest_96 fu v1 v2 (nI (i + 1)) y4 y5 y6 y7 x8 (upd y36 i (y6 i)) x39 x40 x41 y48 y49 y50 y51 y52 y53 y54 := by
        simp only [g_X12_shortest_96]
        rw [if_neg (c6_le hi), if_pos (vin_nI hi (by omega)), nc i (by omega), nI_s]
      rw [e, ih (i + 1) _ (by omega) (by omega), cpI_step hi]
    · have hi6 : i = 6 := by omega
      subst hi6
      rw [hF, cpI_6]
end MSH
