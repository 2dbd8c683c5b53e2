/-! feed, check, count -/
theorem and255 (b : Int32) : (b &&& 255) &&& 255 = b &&& 255 := by rw [Int32.and_assoc]; rfl
/-- one more byte behind the number -/
def nb (x b : Int32) : Int32 := (x <<< ((8 : Int32) &&& 31)) ||| (b &&& 255)
def num4 (y : Nat → Int32) (i : Nat) : Int32 := nb (nb (nb (nb 0 (y (4 * i))) (y (4 * i + 1))) (y (4 * i + 2))) (y (4 * i + 3))
theorem x_at (y : Nat → Int32) {k : Nat} (h : k < 160) : f_X9_at (nI k) y = some (y k &&& 255) := by
  unfold f_X9_at g_X9_at_0
  rw [w_in, if_pos ⟨by rw [i_le, nI_toInt (by omega)]; show (0 : Int) ≤ _; omega, by rw [i_le, nI_toInt (by omega)]; show _ ≤ (159 : Int); omega⟩, Option.bind_some, if_neg (by decide), if_pos (vin_nI h (by omega)), nc k (by omega)]
theorem x_num_step (y : Nat → Int32) {i j : Nat} (hi : i < 6) (hj : j < 4) (fu : Nat) (x : Int32) : g_X9_number_4 (fu + 1) (nI i) x (nI j) y = g_X9_number_4 fu (nI i) (nb x (y (4 * i + j))) (nI (j + 1)) y := by
  simp only [g_X9_number_4]
  have e : (4 : Int32) * nI i + nI j = nI (4 * i + j) := by rw [show (4 : Int32) = nI 4 from rfl, pk_mul, nI_add]
  rw [if_neg (by rw [i_le, nI_toInt (by omega)]; show ¬ (4 : Int) ≤ _; omega), e, x_at y (by omega), Option.bind_some, and255, nI_s]
  rfl
theorem x_num_end (y : Nat → Int32) (i : Nat) (fu : Nat) (x : Int32) : g_X9_number_4 (fu + 1) (nI i) x (nI 4) y = some x := by
  simp only [g_X9_number_4]
  rw [if_pos (by decide)]
theorem x_num (y : Nat → Int32) {i : Nat} (hi : i < 6) : f_X9_number (nI i) y = some (num4 y i) := by
  show g_X9_number_4 (999995 + 1 + 1 + 1 + 1 + 1) (nI i) 0 (nI 0) y = _
  rw [x_num_step y hi (by omega), x_num_step y hi (by omega), x_num_step y hi (by omega), x_num_step y hi (by omega), x_num_end]
  rfl
theorem m_num_step (y : Nat → Int32) {i j : Nat} (hi : i < 6) (hj : j < 4) (fu : Nat) (x : Int32) : g_X12_tapeNumber_6 (fu + 1) (nI i) x (nI (4 * i + j)) y = g_X12_tapeNumber_6 fu (nI i) (nb x (y (4 * i + j))) (nI (4 * i + (j + 1))) y := by
  simp only [g_X12_tapeNumber_6]
  have e : (4 : Int32) * nI i + 4 = nI (4 * i + 4) := by rw [show (4 : Int32) = nI 4 from rfl, pk_mul, nI_add]
  rw [e, if_neg (by rw [nI_leI (by omega) (by omega)]; omega), if_pos (vin_nI (by omega) (by omega)), nc _ (by omega), nI_s]
  rfl
theorem m_num_end (y : Nat → Int32) {i : Nat} (hi : i < 6) (fu : Nat) (x : Int32) : g_X12_tapeNumber_6 (fu + 1) (nI i) x (nI (4 * i + 4)) y = some x := by
  simp only [g_X12_tapeNumber_6]
  have e4 : (4 : Int32) * nI i + 4 = nI (4 * i + 4) := by rw [show (4 : Int32) = nI 4 from rfl, pk_mul, nI_add]
  rw [e4, if_pos (by rw [nI_leI (by omega) (by omega)]; omega)]
theorem m_num (y : Nat → Int32) {i : Nat} (hi : i < 6) : f_X12_tapeNumber (nI i) y = some (num4 y i) := by
  have e : (4 : Int32) * nI i = nI (4 * i + 0) := by rw [show (4 : Int32) = nI 4 from rfl, pk_mul, Nat.add_zero]
  show g_X12_tapeNumber_6 (999995 + 1 + 1 + 1 + 1 + 1) (nI i) 0 (4 * nI i) y = _
  rw [e, m_num_step y hi (by omega), m_num_step y hi (by omega), m_num_step y hi (by omega), m_num_step y hi (by omega)]
  exact m_num_end y hi 999995 _
theorem check_loop (y m : Nat → Int32) {n : Nat} (hn : n ≤ 6) : ∀ (fu i : Nat), i ≤ n → n + 1 ≤ fu + i → ∃ r, g_X11_firstWrong_2 fu (nI n) (nI i) y m = some r ∧ g_X12_check_30 fu (nI n) (nI i) m y 0 = some (r, 0) := by
  intro fu
  induction fu with
  | zero => intro i h1 h2; omega
  | succ fu ih =>
    intro i h1 h2
    simp only [g_X11_firstWrong_2, g_X12_check_30]
    rcases Nat.lt_or_ge i n with hi | hi
    · have h3 : ¬ nI n ≤ nI i := by rw [nI_leI (by omega) (by omega)]; omega
      rw [if_neg h3, if_neg h3, if_neg (c6_le (by omega)), x_num y (by omega), m_num y (by omega), Option.bind_some, Option.bind_some, if_pos (vin_nI (by omega) (by omega)), if_pos (vin_nI (by omega) (by omega)), nc i (by omega), nI_s]
      by_cases h : num4 y i = m i
      · rw [if_pos h, if_pos h]
        exact ih (i + 1) (by omega) (by omega)
      · rw [if_neg h, if_neg h]
        exact ⟨nI i, rfl, rfl⟩
    · have h3 : nI n ≤ nI i := by rw [nI_leI (by omega) (by omega)]; omega
      rw [if_pos h3, if_pos h3]
      exact ⟨-1, rfl, rfl⟩
theorem ok_check : Ok_check Rel := by
  intro S T s1 hR
  obtain ⟨⟨t1, t2, ⟨n, hn, t3⟩, t4⟩, ⟨v1, v2, v3, vb⟩, hr, hs, hp, hm, hb, hk⟩ := hR
  have same : ∀ r : Int32, f_X11_check s1 ((S 1).2 0) ((S 1).1 1) ((S 2).2 2) = some (r, (S 1).1 1) → f_X12_check s1 (T.2.1 6) (T.2.1 7) (T.1 8) = some (r, T.1 8) → ∃ (u w : Int32 × Int32), f_X11_check s1 ((S 1).2 0) ((S 1).1 1) ((S 2).2 2) = some u ∧ f_X12_check s1 (T.2.1 6) (T.2.1 7) (T.1 8) = some w ∧ u.1 = w.1 ∧ Rel (stX_check S u) (stM_check T w) := by
    intro r e1 e2
    exact ⟨_, _, e1, e2, rfl, ⟨t1, t2, ⟨n, hn, t3⟩, t4⟩, ⟨v1, v2, v3, vb⟩, hr, hs, hp, hm, hb, hk⟩
  by_cases h : (0 : Int32) ≤ s1 ∧ s1 ≤ 6
  · obtain ⟨k, hk6, rfl⟩ := of_rng (x := s1) (n := 6) (by omega) h.1 h.2
    have e4 : (4 : Int32) * nI k = nI (4 * k) := by rw [show (4 : Int32) = nI 4 from rfl, pk_mul]
    have e5 : nI n / 4 = nI (n / 4) := pk_div (d := 4) (by omega) (by omega) (by omega)
    by_cases hl : 4 * k ≤ n
    · obtain ⟨r, e1, e2⟩ := check_loop (T.2.1 7) (T.2.1 6) hk6 FU 0 (by omega) (by unfold FU; omega)
      refine ⟨(r, 0), (r, 0), ?_, ?_, rfl, ⟨t1, rfl, ⟨0, by omega, rfl⟩, t4⟩, ⟨v1, v2, v3, vb⟩, hr, hs, hp, hm, hb, hk⟩
      · unfold f_X11_check g_X11_check_0
        rw [w_in, if_pos h, Option.bind_some, if_neg (by decide), t2, t3, e4, if_pos (by rw [nI_leI (by omega) (by omega)]; omega), t1, v3]
        have e1' : f_X11_firstWrong (nI k) (T.2.1 7) (T.2.1 6) = some r := e1
        rw [e1']
        rfl
      · unfold f_X12_check g_X12_check_0
        rw [m_in, if_pos h, Option.bind_some, if_neg (by decide), t3, e5, if_pos (by rw [nI_leI (by omega) (by omega)]; omega)]
        exact e2
    · refine same (-2) ?_ ?_
      · unfold f_X11_check g_X11_check_0
        rw [w_in, if_pos h, Option.bind_some, if_neg (by decide), t2, t3, e4, if_neg (by rw [nI_leI (by omega) (by omega)]; omega)]
      · unfold f_X12_check g_X12_check_0
        rw [m_in, if_pos h, Option.bind_some, if_neg (by decide), t3, e5, if_neg (by rw [nI_leI (by omega) (by omega)]; omega)]
  · refine same (-2) ?_ ?_
    · unfold f_X11_check g_X11_check_0
      rw [w_in, if_neg h]; rfl
    · unfold f_X12_check g_X12_check_0
      rw [m_in, if_neg h]; rfl
