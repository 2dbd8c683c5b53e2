/-! the start of both -/
theorem brims_both : ∀ (fu i : Nat) (y : Nat → Int32), i ≤ 6 → 7 ≤ fu + i → ∃ y', g_J7_fill_53178_5 fu 99 (nI i) 6 y = some y' ∧ g_X12_init_339 fu (nI i) 1 y = some (1, y') ∧ (∀ j, j < i → y' j = y j) ∧ ∀ j, i ≤ j → j < 6 → y' j = 99 := by
  intro fu
  induction fu with
  | zero => intro i y h1 h2; omega
  | succ fu ih =>
    intro i y h1 h2
    have e6 : (6 : Int32) ≤ nI i ↔ 6 ≤ i := nI_leI (a := 6) (by omega) (by omega)
    simp only [g_J7_fill_53178_5, g_X12_init_339]
    by_cases h : 6 ≤ i
    · rw [if_pos (e6.mpr h), if_pos (e6.mpr h)]
      exact ⟨y, rfl, rfl, fun _ _ => rfl, fun j h3 h4 => by omega⟩
    · rw [if_neg (fun z => h (e6.mp z)), if_neg (fun z => h (e6.mp z)), if_pos (vin_nI (by omega) (by omega)), if_pos (vin_nI (by omega) (by omega)), nc i (by omega), nI_s]
      obtain ⟨y', q1, q2, q3, q4⟩ := ih (i + 1) (upd y i 99) (by omega) (by omega)
      refine ⟨y', q1, q2, fun j hj => ?_, fun j hj1 hj2 => ?_⟩
      · rw [q3 j (by omega), upd_ne (by omega)]
      · by_cases hji : j = i
        · subst hji; rw [q3 j (by omega), upd_same]
        · exact q4 j (by omega) hj2
theorem begin_brims : ∃ y, f_X10_init = some y ∧ f_X12_init = some (1, y) ∧ ∀ j, j < 6 → y j = 99 := by
  obtain ⟨y', q1, q2, q3, q4⟩ := brims_both FU 0 (fun _ => 0) (by omega) (by unfold FU; omega)
  have q1' : f_J7_fill_53178 99 (fun _ => 0) = some y' := q1
  refine ⟨y', ?_, q2, fun j hj => q4 j (by omega) hj⟩
  unfold f_X10_init g_X10_init_28
  rw [q1', Option.bind_some]
abbrev RPa (it fi se : Nat → Int32) (a : Nat) : Prop := it a = (if a < 6 then 0 else if a < 12 then 1 else if a < 48 then 2 else 3) ∧ fi a = nI (if a < 12 then a % 6 else (a - 12) % 36 / 6) ∧ se a = nI (if a < 12 then 0 else (a - 12) % 36 % 6)
theorem paths_loop : ∀ (fu a : Nat) (y6 y7 y8 : Nat → Int32), a ≤ 84 → 84 < fu + a → (∀ j, j < a → RPa y6 y7 y8 j) → ∃ u : (Nat → Int32) × (Nat → Int32) × (Nat → Int32), g_X3_init_90 fu (nI a) y6 y7 y8 = some u ∧ ∀ j, j < 84 → RPa u.1 u.2.1 u.2.2 j := by
  intro fu
  induction fu with
  | zero => intro a y6 y7 y8 h1 h2; omega
  | succ fu ih =>
    intro a y6 y7 y8 h1 h2 h3
    have e84 : (84 : Int32) ≤ nI a ↔ 84 ≤ a := nI_leI (a := 84) (by omega) (by omega)
    have e6 : (6 : Int32) ≤ nI a ↔ 6 ≤ a := nI_leI (a := 6) (by omega) (by omega)
    have e12 : (12 : Int32) ≤ nI a ↔ 12 ≤ a := nI_leI (a := 12) (by omega) (by omega)
    have e48 : (48 : Int32) ≤ nI a ↔ 48 ≤ a := nI_leI (a := 48) (by omega) (by omega)
    by_cases h : 84 ≤ a
    · refine ⟨(y6, y7, y8), ?_, fun j hj => h3 j (by omega)⟩
      simp only [g_X3_init_90, if_pos (e84.mpr h)]
    · have hv : vin (nI a) 84 = true := vin_nI (by omega) (by omega)
      have step : ∀ (i f s : Int32), RPa (upd y6 a i) (upd y7 a f) (upd y8 a s) a → ∃ u : (Nat → Int32) × (Nat → Int32) × (Nat → Int32), g_X3_init_90 fu (nI (a + 1)) (upd y6 a i) (upd y7 a f) (upd y8 a s) = some u ∧ ∀ j, j < 84 → RPa u.1 u.2.1 u.2.2 j := by
        intro i f s hh
        refine ih (a + 1) _ _ _ (by omega) (by omega) (fun j hj => ?_)
        by_cases hja : j = a
        · subst hja; exact hh
        · unfold RPa
          rw [upd_ne hja, upd_ne hja, upd_ne hja]
          exact h3 j (by omega)
      have hmod : nI a - nI a / 6 * 6 = nI (a % 6) := rem32 (d := 6) (by omega) (by omega) (by omega) 6 rfl
      by_cases c12 : 12 ≤ a
      · have hmax : f_J9_max_7cf53 (nI a - 12) 0 = some (nI (a - 12)) := by
          rw [show nI a - 12 = nI (a - 12) from pk_sub (b := 12) c12]
          unfold f_J9_max_7cf53 g_J9_max_7cf53_0
          rw [if_neg (show ¬ nI (a - 12) < 0 from fun z => by have := (nI_ltI (b := 0) (by omega) (by omega)).mp z; omega)]
        have h36 : nI (a - 12) - nI (a - 12) / 36 * 36 = nI ((a - 12) % 36) := rem32 (d := 36) (by omega) (by omega) (by omega) 36 rfl
        have hd6 : nI ((a - 12) % 36) / 6 = nI ((a - 12) % 36 / 6) := div32 (d := 6) (by omega) (by omega) (by omega) 6 rfl
        have hm6 : nI ((a - 12) % 36) - nI ((a - 12) % 36 / 6) * 6 = nI ((a - 12) % 36 % 6) := by
          rw [← hd6]; exact rem32 (d := 6) (by omega) (by omega) (by omega) 6 rfl
        by_cases c48 : 48 ≤ a
        · simp only [g_X3_init_90, if_neg (fun z => h (e84.mp z)), hmax, Option.bind_some, if_pos (e6.mpr (show 6 ≤ a by omega)), if_pos (e12.mpr c12), if_pos (e48.mpr c48), h36, g_X3_init_145, g_X3_init_169, hv, if_true, nc a (show a < 2 ^ 31 by omega), hd6, hm6, nI_p]
          refine step _ _ _ ?_
          unfold RPa
          rw [upd_same, upd_same, upd_same, if_neg (by omega), if_neg (by omega), if_neg (by omega), if_neg (by omega), if_neg (by omega)]
          exact ⟨rfl, rfl, rfl⟩
        · simp only [g_X3_init_90, if_neg (fun z => h (e84.mp z)), hmax, Option.bind_some, if_pos (e6.mpr (show 6 ≤ a by omega)), if_pos (e12.mpr c12), if_neg (fun z => c48 (e48.mp z)), h36, g_X3_init_145, g_X3_init_169, hv, if_true, nc a (show a < 2 ^ 31 by omega), hd6, hm6, nI_p]
          refine step _ _ _ ?_
          unfold RPa
          rw [upd_same, upd_same, upd_same, if_neg (by omega), if_neg (by omega), if_pos (by omega), if_neg (by omega), if_neg (by omega)]
          exact ⟨rfl, rfl, rfl⟩
      · obtain ⟨u1, hu1⟩ : ∃ u1, f_J9_max_7cf53 (nI a - 12) 0 = some u1 := by
          unfold f_J9_max_7cf53 g_J9_max_7cf53_0
          by_cases z : nI a - 12 < 0
          · exact ⟨_, if_pos z⟩
          · exact ⟨_, if_neg z⟩
        by_cases c6 : 6 ≤ a
        · simp only [g_X3_init_90, if_neg (fun z => h (e84.mp z)), hu1, Option.bind_some, if_pos (e6.mpr c6), if_neg (fun z => c12 (e12.mp z)), g_X3_init_145, g_X3_init_169, hv, if_true, nc a (show a < 2 ^ 31 by omega), hmod, nI_p]
          refine step _ _ _ ?_
          unfold RPa
          rw [upd_same, upd_same, upd_same, if_neg (by omega), if_pos (by omega), if_pos (by omega), if_pos (by omega)]
          exact ⟨rfl, rfl, rfl⟩
        · simp only [g_X3_init_90, if_neg (fun z => h (e84.mp z)), hu1, Option.bind_some, if_neg (fun z => c6 (e6.mp z)), if_neg (fun z => c12 (e12.mp z)), g_X3_init_145, g_X3_init_169, hv, if_true, nc a (show a < 2 ^ 31 by omega), hmod, nI_p]
          refine step _ _ _ ?_
          unfold RPa
          rw [upd_same, upd_same, upd_same, if_pos (by omega), if_pos (by omega), if_pos (by omega)]
          exact ⟨rfl, rfl, rfl⟩
theorem begin_paths : ∃ u : (Nat → Int32) × (Nat → Int32) × (Nat → Int32), f_X3_init = some u ∧ RP u.1 u.2.1 u.2.2 := by
  obtain ⟨u, q1, q2⟩ := paths_loop FU 0 (fun _ => 0) (fun _ => 0) (fun _ => 0) (by omega) (by unfold FU; omega) (fun j hj => by omega)
  exact ⟨u, q1, fun a ha => q2 a ha⟩
theorem RR_empty (w : Nat) : RR w (fun _ => 0) (fun _ => 0) (fun _ => 0) (fun _ => 0) (fun _ => 0) 0 0 (fun _ => 0) (fun _ => 0) (fun _ => 0) (fun _ => 0) (fun _ => 0) := ⟨0, fun _ => (0, 0, 0), by omega, rfl, rfl, rfl, fun i hi => by omega, fun h => by omega, fun i hi => by omega, fun i hi => by omega⟩
theorem RS_empty : RS (fun _ => 0) (fun _ => 0) 0 (fun _ => 0) 0 := ⟨0, fun _ => (0, 0), fun _ => 0, fun _ => false, by omega, rfl, rfl, ⟨fun h => by omega, fun i hi => by omega⟩, fun i hi => by omega, fun i hi => by omega⟩
theorem rel_begin {y : Nat → Int32} (hy : ∀ j, j < 6 → y j = 99) {u3 : (Nat → Int32) × (Nat → Int32) × (Nat → Int32)} (h3 : RP u3.1 u3.2.1 u3.2.2) : Rel (S0 y u3) (T0 (1, y)) := by
  have i1 : inR (-128) 127 0 := ⟨by decide, by decide⟩
  have i2 : inR 0 3 0 := ⟨by decide, by decide⟩
  have i3 : inR 0 255 0 := ⟨by decide, by decide⟩
  have i4 : inR 0 2 0 := ⟨by decide, by decide⟩
  have i5 : inR 0 9999 0 := ⟨by decide, by decide⟩
  have i6 : inR 0 99 0 := ⟨by decide, by decide⟩
  have i7 : inR 0 65535 1 := ⟨by decide, by decide⟩
  have i8 : inR 0 1008 0 := ⟨by decide, by decide⟩
  have i9 : ¬ (0 : Int32) = 1 := by decide
  have i10 : ¬ (0 : Int32) = 3 := by decide
  refine ⟨⟨rfl, rfl, ⟨0, by omega, rfl⟩, fun j => i1⟩, ⟨rfl, rfl, rfl, ⟨fun j hj => ⟨i2, ?_, ?_⟩, Or.inl rfl, fun _ j hj => ⟨i9, i10⟩⟩⟩, ⟨RR_empty 0, RR_empty 1, RR_empty 2⟩, RS_empty, h3, ⟨rfl, rfl, rfl, rfl, rfl, i3, fun j => ⟨i4, i5, i6, i6⟩⟩, ⟨rfl, rfl, rfl, rfl, i7, i8⟩, ⟨rfl, Or.inl rfl, fun h => absurd h i9⟩⟩
  · show inR 0 99 (y j)
    rw [hy j hj]
    exact ⟨by decide, by decide⟩
  · show inR 0 (y j) 0
    rw [hy j hj]
    exact ⟨by decide, by decide⟩
