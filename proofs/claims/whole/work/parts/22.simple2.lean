theorem tog_eq : ∀ (n : Nat) (a b : Int32) (y : Nat → Int32), g_X10_together_4 n a b y = g_X12_together_4 n a b y := by
  intro n
  induction n with
  | zero => intro a b y; rfl
  | succ n ih => intro a b y; simp only [g_X10_together_4, g_X12_together_4, ih]
theorem tog_some (y : Nat → Int32) : ∀ (fu i : Nat) (a : Int32), i ≤ 6 → 7 ≤ fu + i → ∃ r, g_X12_together_4 fu a (nI i) y = some r := by
  intro fu
  induction fu with
  | zero => intro i a h1 h2; omega
  | succ fu ih =>
    intro i a h1 h2
    rcases Nat.lt_or_ge i 6 with hi | hi
    · simp only [g_X12_together_4]
      rw [if_neg (c6_le hi), if_pos (vin_nI hi (by omega)), nI_s]
      exact ih (i + 1) _ (by omega) (by omega)
    · have hi6 : i = 6 := by omega
      subst hi6
      simp only [g_X12_together_4]
      rw [if_pos c6_ge]
      exact ⟨a, rfl⟩
theorem tog_m (y : Nat → Int32) : ∃ r, f_X12_together y = some r ∧ f_X10_together y = some r := by
  obtain ⟨r, e⟩ := tog_some y FU 0 0 (by omega) (by unfold FU; omega)
  exact ⟨r, e, (tog_eq FU 0 0 y).trans e⟩
/-- the places from i on, of six, are f's -/
def cpI (i : Nat) (f g : Nat → Int32) : Nat → Int32 := fun j => if i ≤ j ∧ j < 6 then f j else g j
theorem cpI_step {i : Nat} (hi : i < 6) (f g : Nat → Int32) : cpI (i + 1) f (upd g i (f i)) = cpI i f g := by
  funext j
  show (if i + 1 ≤ j ∧ j < 6 then f j else upd g i (f i) j) = (if i ≤ j ∧ j < 6 then f j else g j)
  by_cases h : j = i
  · subst h
    rw [if_neg (by omega), upd_same, if_pos (by omega)]
  · rw [upd_ne h]
    by_cases h2 : i + 1 ≤ j ∧ j < 6
    · rw [if_pos h2, if_pos (by omega)]
    · rw [if_neg h2, if_neg (by omega)]
theorem cpI_6 (f g : Nat → Int32) : cpI 6 f g = g := by funext j; exact if_neg (by omega)
theorem cpI_lt {f g : Nat → Int32} {j : Nat} (h : j < 6) : cpI 0 f g j = f j := if_pos ⟨Nat.zero_le _, h⟩
theorem cpI_congr {f f' g : Nat → Int32} (h : ∀ j, j < 6 → f j = f' j) : cpI 0 f g = cpI 0 f' g := by
  funext j
  by_cases hj : j < 6
  · rw [cpI_lt hj, cpI_lt hj, h j hj]
  · show (if _ then _ else _) = (if _ then _ else _)
    rw [if_neg (by omega), if_neg (by omega)]
theorem cpy0 (f g : Nat → Int32) : va_cpy f g (0 : Int32).toNatClampNeg (0 : Int32).toNatClampNeg (6 : Int32).toNatClampNeg = cpI 0 f g := by
  funext j
  show (if 0 ≤ j ∧ j < 0 + 6 then f (0 + (j - 0)) else g j) = (if 0 ≤ j ∧ j < 6 then f j else g j)
  by_cases h : 0 ≤ j ∧ j < 6
  · rw [if_pos (by omega), if_pos h, Nat.sub_zero, Nat.zero_add]
  · rw [if_neg (by omega), if_neg h]
theorem x_copyM (f g : Nat → Int32) : f_X11_copyMeasures f g = some (cpI 0 f g) := by
  show some (va_cpy _ _ _ _ _) = _
  rw [cpy0]
theorem keep_loop (x0 x1 x2 x3 : Int32) (m : Nat → Int32) (a b c d e : Int32) {r : Int32} (hr : f_X12_together m = some r) : ∀ (fu i : Nat) (k : Nat → Int32), i ≤ 6 → 7 ≤ fu + i → g_X12_keep_39 fu (nI i) x0 x1 x2 x3 m a b c d e k = some (r, a, b, c, d, e, cpI i m k) := by
  intro fu
  induction fu with
  | zero => intro i k h1 h2; omega
  | succ fu ih =>
    intro i k h1 h2
    rcases Nat.lt_or_ge i 6 with hi | hi
    · simp only [g_X12_keep_39]
      rw [if_neg (c6_le hi), if_pos (vin_nI hi (by omega)), nc i (by omega), nI_s, ih (i + 1) _ (by omega) (by omega), cpI_step hi]
    · have hi6 : i = 6 := by omega
      subst hi6
      simp only [g_X12_keep_39]
      rw [if_pos c6_ge, hr, cpI_6]
      rfl
theorem le_trans32 {a b c : Int32} (h1 : a ≤ b) (h2 : b ≤ c) : a ≤ c := by rw [i_le] at *; omega
theorem ok_keep : Ok_keep Rel := by
  intro S T hR
  obtain ⟨ht, ⟨v1, v2, v3, vb, vr1, vr0⟩, hr, hs, hp, hm, ⟨b1, b2, b3, b4, b5, b6⟩, hk⟩ := hR
  obtain ⟨r, e1, e2⟩ := tog_m (T.2.1 6)
  have eM : f_X12_keep (T.1 0) (T.1 1) (T.1 2) (T.1 3) (T.2.1 6) (T.1 62) (T.1 63) (T.1 64) (T.1 65) (T.1 66) (T.2.1 67) = some (r, 1, T.1 0, T.1 1, T.1 2, T.1 3, cpI 0 (T.2.1 6) (T.2.1 67)) :=
    keep_loop (T.1 0) (T.1 1) (T.1 2) (T.1 3) (T.2.1 6) 1 (T.1 0) (T.1 1) (T.1 2) (T.1 3) e1 FU 0 (T.2.1 67) (by omega) (by unfold FU; omega)
  refine ⟨(r, 1, cpI 0 (cpI 0 (T.2.1 6) ((S 16).2 0)) ((S 17).2 0), (S 16).1 1, (S 16).1 2, (S 16).1 3, (S 16).1 4, cpI 0 (T.2.1 6) ((S 16).2 0)), _, ?_, eM, rfl, ht, ⟨v1, v2, v3, vb, vr1, vr0⟩, hr, hs, hp, hm, ⟨b1, b2, b3, b4, b5, b6⟩, rfl, Or.inr rfl, fun _ => ⟨b1, b2, b3, b4, b5, b6, fun j hj => ?_⟩⟩
  · unfold f_X11_keep g_X11_keep_0
    rw [v3, x_copyM, Option.bind_some]
    unfold f_X1_copy g_X1_copy_0
    rw [x_copyM, e2]
    rfl
  · show cpI 0 (cpI 0 (T.2.1 6) ((S 16).2 0)) ((S 17).2 0) j = cpI 0 (T.2.1 6) (T.2.1 67) j ∧ inR 0 99 (cpI 0 (T.2.1 6) (T.2.1 67) j)
    rw [cpI_lt hj, cpI_lt hj, cpI_lt hj]
    obtain ⟨-, q1, q2⟩ := vb j hj
    exact ⟨rfl, q2.1, le_trans32 q2.2 q1.2⟩
theorem hold_x (b y : Nat → Int32) : ∀ (fu i : Nat), i ≤ 6 → 7 ≤ fu + i → ((∀ j, i ≤ j → j < 6 → y j ≤ b j) → g_X10_hold_2 fu (nI i) b y = some 1) ∧ ((¬ ∀ j, i ≤ j → j < 6 → y j ≤ b j) → g_X10_hold_2 fu (nI i) b y = some 0) := by
  intro fu
  induction fu with
  | zero => intro i h1 h2; omega
  | succ fu ih =>
    intro i h1 h2
    rcases Nat.lt_or_ge i 6 with hi | hi
    · have e : g_X10_hold_2 (fu + 1) (nI i) b y = (if y i ≤ b i then g_X10_hold_2 fu (nI (i + 1)) b y else some 0) := by
        simp only [g_X10_hold_2]
        rw [if_neg (c6_le hi), if_pos (vin_nI hi (by omega)), nc i (by omega), nI_s]
      rw [e]
      obtain ⟨q1, q2⟩ := ih (i + 1) (by omega) (by omega)
      by_cases h : y i ≤ b i
      · rw [if_pos h]
        refine ⟨fun hh => q1 (fun j hj hj6 => hh j (by omega) hj6), fun hh => q2 (fun hj => hh (fun j hj1 hj6 => ?_))⟩
        rcases Nat.lt_or_ge i j with q | q
        · exact hj j q hj6
        · rw [show j = i by omega]; exact h
      · rw [if_neg h]
        exact ⟨fun hh => absurd (hh i (Nat.le_refl i) hi) h, fun _ => rfl⟩
    · have hi6 : i = 6 := by omega
      subst hi6
      have e : g_X10_hold_2 (fu + 1) (nI 6) b y = some 1 := by
        simp only [g_X10_hold_2]
        rw [if_pos c6_ge]
      exact ⟨fun _ => e, fun hh => absurd (fun j h3 h4 => absurd h4 (by omega)) hh⟩
theorem undo_74 (x0 x1 x2 x3 : Int32) (b : Nat → Int32) (a1 a2 a3 a4 a5 : Int32) (k : Nat → Int32) : ∀ (fu i : Nat) (m : Nat → Int32), i ≤ 6 → 7 ≤ fu + i → g_X12_undo_74 fu (nI i) x0 x1 x2 x3 b m a1 a2 a3 a4 a5 k = some (1, x0, x1, x2, x3, cpI i k m) := by
  intro fu
  induction fu with
  | zero => intro i m h1 h2; omega
  | succ fu ih =>
    intro i m h1 h2
    rcases Nat.lt_or_ge i 6 with hi | hi
    · simp only [g_X12_undo_74]
      rw [if_neg (c6_le hi), if_pos (vin_nI hi (by omega)), nc i (by omega), nI_s, ih (i + 1) _ (by omega) (by omega), cpI_step hi]
    · have hi6 : i = 6 := by omega
      subst hi6
      simp only [g_X12_undo_74]
      rw [if_pos c6_ge, cpI_6]
theorem undo_11 (x0 x1 x2 x3 : Int32) (b m : Nat → Int32) (a1 a2 a3 a4 a5 : Int32) (k : Nat → Int32) : ∀ (fu i : Nat), i ≤ 6 → 7 ≤ fu + i → ((∀ j, i ≤ j → j < 6 → k j ≤ b j) → g_X12_undo_11 fu (nI i) x0 x1 x2 x3 b m a1 a2 a3 a4 a5 k = some (1, a2, a3, a4, a5, cpI 0 k m)) ∧ ((¬ ∀ j, i ≤ j → j < 6 → k j ≤ b j) → g_X12_undo_11 fu (nI i) x0 x1 x2 x3 b m a1 a2 a3 a4 a5 k = some (0, x0, x1, x2, x3, m)) := by
  intro fu
  induction fu with
  | zero => intro i h1 h2; omega
  | succ fu ih =>
    intro i h1 h2
    rcases Nat.lt_or_ge i 6 with hi | hi
    · have e : g_X12_undo_11 (fu + 1) (nI i) x0 x1 x2 x3 b m a1 a2 a3 a4 a5 k = (if k i ≤ b i then g_X12_undo_11 fu (nI (i + 1)) x0 x1 x2 x3 b m a1 a2 a3 a4 a5 k else some (0, x0, x1, x2, x3, m)) := by
        simp only [g_X12_undo_11]
        rw [if_neg (c6_le hi), if_pos (vin_nI hi (by omega)), nc i (by omega), nI_s]
      rw [e]
      obtain ⟨q1, q2⟩ := ih (i + 1) (by omega) (by omega)
      by_cases h : k i ≤ b i
      · rw [if_pos h]
        refine ⟨fun hh => q1 (fun j hj hj6 => hh j (by omega) hj6), fun hh => q2 (fun hj => hh (fun j hj1 hj6 => ?_))⟩
        rcases Nat.lt_or_ge i j with q | q
        · exact hj j q hj6
        · rw [show j = i by omega]; exact h
      · rw [if_neg h]
        exact ⟨fun hh => absurd (hh i (Nat.le_refl i) hi) h, fun _ => rfl⟩
    · have hi6 : i = 6 := by omega
      subst hi6
      refine ⟨fun _ => ?_, fun hh => absurd (fun j h3 h4 => absurd h4 (by omega)) hh⟩
      simp only [g_X12_undo_11]
      rw [if_pos c6_ge]
      exact undo_74 _ _ _ _ _ _ _ _ _ _ _ FU 0 _ (by omega) (by unfold FU; omega)
theorem ok_undo : Ok_undo Rel := by
  intro S T hR
  obtain ⟨ht, ⟨v1, v2, v3, vb, vr1, vr0⟩, hr, hs, hp, hm, ⟨b1, b2, b3, b4, b5, b6⟩, k1, k2, k3⟩ := hR
  rcases k2 with hz | ho
  · refine ⟨(0, (S 16).2 0, (S 16).1 1, (S 16).1 2, (S 16).1 3, (S 16).1 4, (S 2).2 2), (0, T.1 0, T.1 1, T.1 2, T.1 3, T.2.1 6), ?_, ?_, rfl, ht, ⟨v1, v2, v3, vb, vr1, vr0⟩, hr, hs, hp, hm, ⟨b1, b2, b3, b4, b5, b6⟩, k1, Or.inl hz, k3⟩
    · show (if (S 0).1 15 = 0 then _ else _) = _
      rw [if_pos (k1.trans hz)]
    · show (if T.1 62 = 0 then _ else _) = _
      rw [if_pos hz]
  · obtain ⟨c1, c2, c3, c4, c5, c6, c7⟩ := k3 ho
    have nz : ¬ T.1 62 = 0 := by rw [ho]; decide
    obtain ⟨p1, p2⟩ := hold_x ((S 2).2 1) ((S 17).2 0) FU 0 (by omega) (by unfold FU; omega)
    obtain ⟨q1, q2⟩ := undo_11 (T.1 0) (T.1 1) (T.1 2) (T.1 3) (T.2.1 5) (T.2.1 6) (T.1 62) (T.1 63) (T.1 64) (T.1 65) (T.1 66) (T.2.1 67) FU 0 (by omega) (by unfold FU; omega)
    by_cases h : ∀ j, 0 ≤ j → j < 6 → T.2.1 67 j ≤ T.2.1 5 j
    · have hx : ∀ j, 0 ≤ j → j < 6 → (S 17).2 0 j ≤ (S 2).2 1 j := fun j h0 hj => by rw [(c7 j hj).1, v2]; exact h j h0 hj
      refine ⟨(1, cpI 0 ((S 17).2 0) ((S 16).2 0), (S 17).1 1, (S 17).1 2, (S 17).1 3, (S 17).1 4, cpI 0 ((S 17).2 0) ((S 2).2 2)), (1, T.1 63, T.1 64, T.1 65, T.1 66, cpI 0 (T.2.1 67) (T.2.1 6)), ?_, ?_, rfl, ht, ⟨v1, v2, ?_, fun j hj => ?_, vr1, vr0⟩, hr, hs, hp, hm, ⟨c1, c2, c3, c4, c5, c6⟩, k1, Or.inr ho, k3⟩
      · show (if (S 0).1 15 = 0 then _ else (f_X10_hold _ _).bind _) = _
        rw [if_neg (by rw [k1]; exact nz)]
        have e : f_X10_hold ((S 2).2 1) ((S 17).2 0) = some 1 := p1 hx
        rw [e, Option.bind_some, if_neg (by decide)]
        unfold f_X1_copy g_X1_copy_0
        rw [x_copyM, x_copyM]
        rfl
      · show (if T.1 62 = 0 then _ else _) = _
        rw [if_neg nz]
        exact q1 h
      · show cpI 0 ((S 17).2 0) ((S 2).2 2) = cpI 0 (T.2.1 67) (T.2.1 6)
        rw [v3]
        exact cpI_congr (fun j hj => (c7 j hj).1)
      · show inR 0 3 (T.2.1 4 j) ∧ inR 0 99 (T.2.1 5 j) ∧ inR 0 (T.2.1 5 j) (cpI 0 (T.2.1 67) (T.2.1 6) j)
        rw [cpI_lt hj]
        exact ⟨(vb j hj).1, (vb j hj).2.1, (c7 j hj).2.1, h j (Nat.zero_le _) hj⟩
    · have hx : ¬ ∀ j, 0 ≤ j → j < 6 → (S 17).2 0 j ≤ (S 2).2 1 j := fun hh => h (fun j h0 hj => by rw [← (c7 j hj).1, ← v2]; exact hh j h0 hj)
      refine ⟨(0, (S 16).2 0, (S 16).1 1, (S 16).1 2, (S 16).1 3, (S 16).1 4, (S 2).2 2), (0, T.1 0, T.1 1, T.1 2, T.1 3, T.2.1 6), ?_, ?_, rfl, ht, ⟨v1, v2, v3, vb, vr1, vr0⟩, hr, hs, hp, hm, ⟨b1, b2, b3, b4, b5, b6⟩, k1, Or.inr ho, k3⟩
      · show (if (S 0).1 15 = 0 then _ else (f_X10_hold _ _).bind _) = _
        rw [if_neg (by rw [k1]; exact nz)]
        have e : f_X10_hold ((S 2).2 1) ((S 17).2 0) = some 0 := p2 hx
        rw [e]
        rfl
      · show (if T.1 62 = 0 then _ else _) = _
        rw [if_neg nz]
        exact q2 h
