/-! specs as they are kept -/
theorem stx_xsp {o d : Nat} (ho : o ≤ 12) : stx (nI (xsp o)) d = (if o ≤ 1 then d + 1 else if o ≤ 6 then d - 1 else if o ≤ 10 then 1 else 0) ∧ decide (nI (xsp o) = 2 ∨ nI (xsp o) = 60 ∨ nI (xsp o) = 61 ∨ nI (xsp o) = 62) = decide (7 ≤ o ∧ o ≤ 10) := by
  rcases (show o = 0 ∨ o = 1 ∨ o = 2 ∨ o = 3 ∨ o = 4 ∨ o = 5 ∨ o = 6 ∨ o = 7 ∨ o = 8 ∨ o = 9 ∨ o = 10 ∨ o = 11 ∨ o = 12 by omega) with rfl | rfl | rfl | rfl | rfl | rfl | rfl | rfl | rfl | rfl | rfl | rfl | rfl <;> exact ⟨rfl, rfl⟩
theorem RS_of {n : Nat} (hn : n ≤ 120) {yc yw cs co : Nat → Int32} (h : ∀ i, i < n → SpI n i yc yw cs) (hD : spD yc n = 1) (hB : spB yc n = true) (hco : ∀ i, i < n → co i = cs i) : RS yc yw (nI n) co (nI n) := by
  have hex : ∀ i : Nat, ∃ q : Nat × Nat, i < n → cs i = nI (1048576 * q.1 + q.2) ∧ yc i = nI (xsp q.1) ∧ (q.1 ≤ 1 ∨ 11 ≤ q.1 → yw i = nI q.2) ∧ q.1 ≤ 12 ∧ (q.1 = 0 → q.2 < 100000) ∧ (q.1 = 1 → q.2 < 16) ∧ (2 ≤ q.1 ∧ q.1 ≤ 10 → q.2 = 0) ∧ (q.1 ≤ 9 → spB yc i = false) ∧ (2 ≤ q.1 ∧ q.1 ≤ 6 → 2 ≤ spD yc i) ∧ (7 ≤ q.1 ∧ q.1 ≤ 9 → spD yc i = 2) ∧ (10 ≤ q.1 → spD yc i = 1 ∧ spB yc i = true) ∧ (11 ≤ q.1 → i < q.2 ∧ q.2 ≤ n ∧ spD yc q.2 = 1 ∧ spB yc q.2 = true) := by
    intro i
    by_cases hi : i < n
    · obtain ⟨o, v, hh⟩ := h i hi
      exact ⟨(o, v), fun _ => hh⟩
    · exact ⟨(0, 0), fun z => absurd z hi⟩
  obtain ⟨P, hP⟩ := Classical.axiomOfChoice hex
  refine ⟨n, P, spD yc, spB yc, hn, rfl, rfl, ⟨fun _ => ⟨rfl, rfl, hD, hB⟩, fun i hi => ?_⟩, fun i hi => ⟨(hP i hi).2.1, (hP i hi).2.2.1⟩, fun i hi => (hco i hi).trans (hP i hi).1⟩
  obtain ⟨q1, q2, q3, q4, q5, q6, q7, q8, q9, q10, q11, q12⟩ := hP i hi
  have e1 : spD yc (i + 1) = stx (yc i) (spD yc i) := rfl
  have e2 : spB yc (i + 1) = decide (yc i = 2 ∨ yc i = 60 ∨ yc i = 61 ∨ yc i = 62) := rfl
  rw [q2, (stx_xsp q4).1] at e1
  rw [q2, (stx_xsp (d := 0) q4).2] at e2
  refine ⟨q4, fun h => ⟨q5 h, ?_, q8 (by omega), ?_⟩, fun h => ⟨q6 h, ?_, q8 (by omega), ?_⟩, fun h => ⟨q7 (by omega), q9 h, ?_, q8 (by omega), ?_⟩, fun h => ⟨q7 (by omega), q10 h, ?_, q8 (by omega), ?_⟩, fun h => ⟨q7 (by omega), (q11 (by omega)).1, ?_, (q11 (by omega)).2, ?_⟩, fun h => ⟨(q12 h).1, (q12 h).2.1, (q11 (by omega)).1, (q11 (by omega)).2, ?_, ?_, (q12 h).2.2.1, (q12 h).2.2.2⟩⟩
  · rw [e1, if_pos (by omega)]
  · rw [e2]; exact decide_eq_false (by omega)
  · rw [e1, if_pos (by omega)]
  · rw [e2]; exact decide_eq_false (by omega)
  · have := q9 h
    rw [e1, if_neg (by omega), if_pos (by omega)]; omega
  · rw [e2]; exact decide_eq_false (by omega)
  · rw [e1, if_neg (by omega), if_neg (by omega), if_pos (by omega)]
  · rw [e2]; exact decide_eq_true (by omega)
  · rw [e1, if_neg (by omega), if_neg (by omega), if_pos (by omega)]
  · rw [e2]; exact decide_eq_true (by omega)
  · rw [e1, if_neg (by omega), if_neg (by omega), if_neg (by omega)]
  · rw [e2]; exact decide_eq_false (by omega)
theorem m_copyS {n : Nat} (hn : n ≤ 120) {t y17 y18 : Nat → Int32} {x8 x9 x10 x11 x12 x14 x15 x16 : Int32} : ∀ (fu k : Nat) (y19 : Nat → Int32), k ≤ n → n - k < fu → ∃ y19', g_X12_spec_44 fu (nI k) t x8 x9 x10 x11 x12 (nI n) x14 x15 x16 y17 y18 y19 = some (1, x8, x9, x10, x11, x12, nI n, x14, x15, x16, y17, y18, y19') ∧ (∀ i, k ≤ i → i < n → y19' i = y17 i) ∧ (∀ i, i < k → y19' i = y19 i) := by
  intro fu
  induction fu with
  | zero => intro k y19 h1 h2; omega
  | succ fu ih =>
    intro k y19 h1 h2
    simp only [g_X12_spec_44]
    rw [ite_le (by omega) (by omega)]
    by_cases hk : n ≤ k
    · rw [if_pos hk]
      exact ⟨y19, rfl, fun i h3 h4 => by omega, fun _ _ => rfl⟩
    · rw [if_neg hk, if_pos (vin_nI (by omega) (by omega)), nc k (by omega), nI_s]
      obtain ⟨y19', q1, q2, q3⟩ := ih (k + 1) (upd y19 k (y17 k)) (by omega) (by omega)
      refine ⟨y19', q1, fun i hi1 hi2 => ?_, fun i hi => ?_⟩
      · by_cases hik : i = k
        · subst hik
          rw [q3 i (by omega), upd_same]
        · exact q2 i (by omega) hi2
      · rw [q3 i (by omega), upd_ne (by omega)]
theorem ok_spec : Ok_spec Rel := by
  intro h zr S T s1 hR
  obtain ⟨⟨t1, t2, ⟨tn, tn1, tn2⟩, t4⟩, hv, hr, hs, hp, hm, hb, hk⟩ := hR
  unfold f_X11_spec g_X11_spec_0 f_X12_spec g_X12_spec_0
  rw [t1, t2]
  unfold f_X11_hasText g_X11_hasText_0 f_X12_isText g_X12_isText_0
  simp only [w_in, m_in, Option.bind_some]
  by_cases h2 : (1 : Int32) ≤ s1 ∧ s1 ≤ 120
  · simp only [if_pos h2, if_neg (show ¬ (1 : Int32) = 0 by decide)]
    by_cases h3 : T.1 8 < s1
    · simp only [if_pos h3, Option.bind_some, if_true]
      exact ⟨_, _, rfl, rfl, rfl, Or.inl ⟨rfl, rfl, ⟨t1, rfl, ⟨tn, tn1, tn2⟩, t4⟩, hv, hr, hs, hp, hm, hb, hk⟩⟩
    · simp only [if_neg h3, Option.bind_some, if_neg (show ¬ (1 : Int32) = 0 by decide)]
      obtain ⟨N, hN, rfl⟩ := of_rng (x := s1) (n := 120) (by omega) (le_trans32 (by decide) h2.1) h2.2
      have hcl : f_X9_clear (T.1 8) = some 0 := rfl
      have hbe : f_X12_begins (nI N) (T.1 9) (T.1 10) (T.1 13) = some (0, nI N, 0) := rfl
      rw [hcl, hbe, Option.bind_some]
      rcases spec_both (t := T.2.1 7) hN (z0 := (S 8).2 0) (z1 := (S 8).2 1) (y17 := T.2.1 17) (y18 := T.2.1 18) (x2 := (S 8).1 2) (x12 := (S 1).1 2) (x13 := (S 1).1 3) (x14 := (S 1).1 4) (x11 := T.1 11) (x12m := T.1 12) (x14m := T.1 14) (x15 := T.1 15) with ⟨u, v, q1, q2, q3, q4, q5⟩ | ⟨n, u, v, q0, qn, q1, q2, q3, q4, q5, q6, q7, q8, q9⟩
      · rw [q1, Option.bind_some, Option.bind_some, if_pos q2, q3, Option.bind_some, if_pos q4]
        exact ⟨_, _, rfl, rfl, q5, Or.inl ⟨rfl, rfl, ⟨t1, rfl, ⟨0, by omega, rfl⟩, t4⟩, hv, hr, hs, hp, hm, hb, hk⟩⟩
      · rw [q1, Option.bind_some, Option.bind_some, if_neg (show ¬ u.1 = 0 by rw [q2]; decide), q3, Option.bind_some, if_neg (show ¬ v.1 = 0 by rw [q4]; decide), q6]
        obtain ⟨y19', c1, c2, c3⟩ := m_copyS (n := n) q0 (t := T.2.1 7) (y17 := v.2.2.2.2.2.2.2.1) (y18 := v.2.2.2.2.2.2.2.2) (x8 := 0) (x9 := v.2.1) (x10 := nI N) (x11 := v.2.2.1) (x12 := v.2.2.2.1) (x14 := v.2.2.2.2.2.1) (x15 := v.2.2.2.2.2.2.1) (x16 := nI n) FU 0 (T.2.1 19) (Nat.zero_le _) (by unfold FU; omega)
        have c1' : g_X12_spec_44 FU 0 (T.2.1 7) 0 v.2.1 (nI N) v.2.2.1 v.2.2.2.1 (nI n) v.2.2.2.2.2.1 v.2.2.2.2.2.2.1 (nI n) v.2.2.2.2.2.2.2.1 v.2.2.2.2.2.2.2.2 (T.2.1 19) = _ := c1
        rw [c1']
        have hnew : RS u.2.1 u.2.2.1 u.2.2.2.1 y19' (nI n) := by
          rw [q5]
          exact RS_of q0 q9 q7 q8 (fun i hi => c2 i (Nat.zero_le _) hi)
        exact ⟨_, _, rfl, rfl, rfl, Or.inr ⟨rfl, rfl, ⟨t1, rfl, ⟨0, by omega, rfl⟩, t4⟩, hv, hr, hnew, hp, hm, hb, hk⟩⟩
  · simp only [if_neg h2, if_true, Option.bind_some]
    exact ⟨_, _, rfl, rfl, rfl, Or.inl ⟨rfl, rfl, ⟨t1, rfl, ⟨tn, tn1, tn2⟩, t4⟩, hv, hr, hs, hp, hm, hb, hk⟩⟩
