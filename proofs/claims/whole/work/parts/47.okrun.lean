/-! run -/
theorem rel_run {S : XS} {T : MS} (hR : Rel S T) (u : Int32 × (Nat → Int32) × (Nat → Int32) × Int32 × Int32 × Int32 × Int32 × Int32 × Int32 × (Nat → Int32) × Int32 × Int32 × Int32 × Int32 × Int32 × (Nat → Int32) × Int32 × Int32 × Int32) (w : Int32 × (Nat → Int32) × (Nat → Int32) × (Nat → Int32) × (Nat → Int32) × Int32 × Int32 × Int32 × Int32 × Int32 × Int32) : Rel (stX_run S u) (stM_run T w) := by
  obtain ⟨ht, hv, hr, hs, hp, hm, hb, hk⟩ := hR
  exact ⟨ht, hv, hr, hs, hp, hm, hb, hk⟩
theorem ok_run : Ok_run Rel := by
  intro S T s1 s2 s3 hR
  have hR0 := hR
  obtain ⟨ht, ⟨v1, v2, v3, vb⟩, ⟨r0, r1, r2⟩, hs, hp, hm, hb, hk⟩ := hR
  suffices hh : ∃ v : Int32, (∃ u, f_X11_run s1 s2 s3 ((S 10).2 1) ((S 10).2 2) ((S 10).1 3) ((S 10).1 4) ((S 10).1 5) ((S 10).1 6) ((S 10).1 7) ((S 10).1 8) ((S 10).2 9) ((S 10).1 10) ((S 10).1 11) ((S 10).1 12) ((S 10).1 13) ((S 10).1 14) ((S 7).2 0) ((S 7).2 1) ((S 7).1 2) ((S 7).2 3) ((S 7).1 4) ((S 7).1 5) ((S 7).1 6) ((S 2).2 0) ((S 2).2 1) ((S 2).2 2) ((S 2).1 3) ((S 3).2 0) ((S 3).2 1) ((S 3).2 2) ((S 3).2 3) ((S 3).2 4) ((S 3).1 5) ((S 4).2 0) ((S 4).2 1) ((S 4).2 2) ((S 4).2 3) ((S 4).2 4) ((S 4).1 5) ((S 5).2 0) ((S 5).2 1) ((S 5).2 2) ((S 5).2 3) ((S 5).2 4) ((S 5).1 5) = some u ∧ u.1 = v) ∧ (∃ w, f_X12_run s1 s2 s3 (T.2.1 4) (T.2.1 5) (T.2.1 6) (T.1 16) (T.2.1 19) (T.2.1 20) (T.2.1 21) (T.2.1 25) (T.2.1 26) (T.2.1 27) (T.2.1 28) (T.2.1 35) (T.2.1 36) (T.1 37) (T.1 38) (T.1 39) (T.1 40) (T.1 41) (T.1 42) = some w ∧ w.1 = v) by
    obtain ⟨v, ⟨u, e1, e2⟩, w, e3, e4⟩ := hh
    exact ⟨u, w, e1, e3, e2.trans e4.symm, rel_run hR0 u w⟩
  by_cases h1 : (0 : Int32) ≤ s1 ∧ s1 ≤ 2
  · by_cases h2 : (1 : Int32) ≤ s2 ∧ s2 ≤ 20000
    · by_cases h3 : ((0 : Int32) ≤ s3 ∧ s3 ≤ 5) ∨ ((10 : Int32) ≤ s3 ∧ s3 ≤ 15)
      · obtain ⟨w, hw, rfl⟩ := of_rng (x := s1) (n := 2) (by omega) h1.1 h1.2
        obtain ⟨lim, hlim, rfl⟩ := of_rng (x := s2) (n := 20000) (by omega) (le_trans32 (by decide) h2.1) h2.2
        obtain ⟨k1, k2, k3, k4, k5, k6⟩ := RV_abs vb
        have eX : f_X11_run (nI w) (nI lim) s3 ((S 10).2 1) ((S 10).2 2) ((S 10).1 3) ((S 10).1 4) ((S 10).1 5) ((S 10).1 6) ((S 10).1 7) ((S 10).1 8) ((S 10).2 9) ((S 10).1 10) ((S 10).1 11) ((S 10).1 12) ((S 10).1 13) ((S 10).1 14) ((S 7).2 0) ((S 7).2 1) ((S 7).1 2) ((S 7).2 3) ((S 7).1 4) ((S 7).1 5) ((S 7).1 6) ((S 2).2 0) ((S 2).2 1) ((S 2).2 2) ((S 2).1 3) ((S 3).2 0) ((S 3).2 1) ((S 3).2 2) ((S 3).2 3) ((S 3).2 4) ((S 3).1 5) ((S 4).2 0) ((S 4).2 1) ((S 4).2 2) ((S 4).2 3) ((S 4).2 4) ((S 4).1 5) ((S 5).2 0) ((S 5).2 1) ((S 5).2 2) ((S 5).2 3) ((S 5).2 4) ((S 5).1 5) = g_X11_run_25 (nI w) (nI lim) s3 1 ((S 10).2 1) ((S 10).2 2) ((S 10).1 3) ((S 10).1 4) ((S 10).1 5) ((S 10).1 6) ((S 10).1 7) ((S 10).1 8) ((S 10).2 9) ((S 10).1 10) ((S 10).1 11) ((S 10).1 12) ((S 10).1 13) ((S 10).1 14) ((S 7).2 0) ((S 7).2 1) ((S 7).1 2) ((S 7).2 3) ((S 7).1 4) ((S 7).1 5) ((S 7).1 6) ((S 2).2 0) ((S 2).2 1) ((S 2).2 2) ((S 2).1 3) ((S 3).2 0) ((S 3).2 1) ((S 3).2 2) ((S 3).2 3) ((S 3).2 4) ((S 3).1 5) ((S 4).2 0) ((S 4).2 1) ((S 4).2 2) ((S 4).2 3) ((S 4).2 4) ((S 4).1 5) ((S 5).2 0) ((S 5).2 1) ((S 5).2 2) ((S 5).2 3) ((S 5).2 4) ((S 5).1 5) := by
          unfold f_X11_run g_X11_run_0 g_X11_run_20
          rw [w_in, w_in, Option.bind_some, Option.bind_some]
          by_cases q : (0 : Int32) ≤ s3 ∧ s3 ≤ 5
          · rw [if_pos q, if_neg (by decide)]
          · rw [if_neg q, if_pos rfl, if_pos (h3.resolve_left q), if_neg (by decide)]
        have eM : f_X12_run (nI w) (nI lim) s3 (T.2.1 4) (T.2.1 5) (T.2.1 6) (T.1 16) (T.2.1 19) (T.2.1 20) (T.2.1 21) (T.2.1 25) (T.2.1 26) (T.2.1 27) (T.2.1 28) (T.2.1 35) (T.2.1 36) (T.1 37) (T.1 38) (T.1 39) (T.1 40) (T.1 41) (T.1 42) = g_X12_run_36 (nI w) (nI lim) s3 (T.2.1 4) (T.2.1 5) (T.2.1 6) (T.1 16) (T.2.1 19) (T.2.1 20) (T.2.1 21) (T.2.1 25) (T.2.1 26) (T.2.1 27) (T.2.1 28) (T.2.1 35) (T.2.1 36) (T.1 37) (T.1 38) (T.1 39) (T.1 40) (T.1 41) (T.1 42) := by
          unfold f_X12_run g_X12_run_0
          rw [m_isRecipe, if_pos h1, Option.bind_some, if_neg (by decide), m_isLimit, if_pos h2, Option.bind_some, if_neg (by decide), m_in, m_in, Option.bind_some, Option.bind_some]
          by_cases q : (0 : Int32) ≤ s3 ∧ s3 ≤ 5
          · rw [if_pos q, if_neg (by decide)]
          · rw [if_neg q, if_pos rfl, if_pos (h3.resolve_left q), if_neg (by decide)]
        rw [eX, eM]
        unfold g_X11_run_25 g_X12_run_36
        rw [x_isRecipe, if_pos h1, Option.bind_some, if_neg (by decide), w_in, if_pos h2, Option.bind_some, if_neg (by decide), if_neg (by decide), x_start, Option.bind_some, m_startmF, Option.bind_some, v1, v2, v3]
        dsimp only
        have hq3 : ¬ s3 = 0 → ¬ s3 = 1 → ¬ s3 = 2 → ¬ s3 = 3 → ¬ s3 = 4 → ¬ s3 = 5 → ∃ j, j < 6 ∧ s3 - 10 = nI j := by
          intro a0 a1 a2 a3 a4 a5
          have g : (10 : Int32) ≤ s3 ∧ s3 ≤ 15 := by
            refine h3.resolve_left (fun q => ?_)
            obtain ⟨k, hk, rfl⟩ := of_rng (x := s3) (n := 5) (by omega) q.1 q.2
            rcases (show k = 0 ∨ k = 1 ∨ k = 2 ∨ k = 3 ∨ k = 4 ∨ k = 5 by omega) with rfl | rfl | rfl | rfl | rfl | rfl
            · exact a0 rfl
            · exact a1 rfl
            · exact a2 rfl
            · exact a3 rfl
            · exact a4 rfl
            · exact a5 rfl
          obtain ⟨k, hk, rfl⟩ := of_rng (x := s3) (n := 15) (by omega) (le_trans32 (by decide) g.1) g.2
          have g1 : 10 ≤ k := by
            have := g.1
            rw [show (10 : Int32) = nI 10 from rfl, nI_leI (by omega) (by omega)] at this
            exact this
          exact ⟨k - 10, by omega, pk_sub (b := 10) g1⟩
        rcases (show w = 0 ∨ w = 1 ∨ w = 2 by omega) with rfl | rfl | rfl
        · obtain ⟨R, hB, ⟨f', mk', p', a1, a2, a3, a4, a5, q1, q2⟩, g', p'', q3, q4⟩ := run_pair (w := 0) (by omega) r0 vb hlim (show 0 < 1009 by omega) k5 (Z6_abs _) (R6_cpI (g := (S 10).2 2) k4) (R6_cpI (g := T.2.1 36) k4) ((S 10).2 9) ((S 10).1 10) ((S 10).1 11) ((S 10).1 12) ((S 10).1 13) ((S 10).1 14)
          obtain ⟨r, ⟨hx', y4, y5, y6, e6⟩, y20', y21', e7⟩ := spec_pair hs (bx := cpI 0 (T.2.1 6) ((S 10).2 1)) (bm := cpI 0 (T.2.1 6) (T.2.1 35)) (nx := f') (nm := g') (fun j hj => by rw [cpI_lt hj, cpI_lt hj]) (fun j hj => by rw [q2 j hj, q4 j hj]) ((S 7).2 3) ((S 7).1 4) ((S 7).1 5) ((S 7).1 6) (T.2.1 20) (T.2.1 21) (nI R.2.1) (nI R.1.2.1) (nI R.1.2.2.1) (nI R.2.2.2)
          rw [if_pos (show nI 0 = 0 from rfl)]
          have q1' : f_X0_go (nI lim) (cpI 0 (T.2.1 6) ((S 10).2 2)) 0 0 0 0 0 0 ((S 10).2 9) ((S 10).1 10) ((S 10).1 11) ((S 10).1 12) ((S 10).1 13) ((S 10).1 14) ((S 3).2 0) ((S 3).2 1) ((S 3).2 2) ((S 3).2 3) ((S 3).2 4) ((S 3).1 5) (T.2.1 4) (T.2.1 5) ((S 2).1 3) = _ := q1
          have q3' : f_X12_runsOn (nI 0) (nI lim) (T.2.1 4) (T.2.1 5) (T.2.1 25) (T.2.1 26) (T.2.1 27) (T.2.1 28) (cpI 0 (T.2.1 6) (T.2.1 36)) 0 0 0 0 0 0 = _ := q3
          rw [q1', q3', Option.bind_some, Option.bind_some]
          dsimp only
          by_cases a0 : s3 = 0
          · simp only [if_pos a0]; exact ⟨_, ⟨_, rfl, rfl⟩, _, rfl, rfl⟩
          by_cases a1 : s3 = 1
          · simp only [if_neg a0, if_pos a1]; exact ⟨_, ⟨_, rfl, rfl⟩, _, rfl, rfl⟩
          by_cases a2 : s3 = 2
          · simp only [if_neg a0, if_neg a1, if_pos a2]; exact ⟨_, ⟨_, rfl, rfl⟩, _, rfl, rfl⟩
          by_cases a3 : s3 = 3
          · simp only [if_neg a0, if_neg a1, if_neg a2, if_pos a3]; exact ⟨_, ⟨_, rfl, rfl⟩, _, rfl, rfl⟩
          by_cases a4 : s3 = 4
          · simp only [if_neg a0, if_neg a1, if_neg a2, if_neg a3, if_pos a4]; exact ⟨_, ⟨_, rfl, rfl⟩, _, rfl, rfl⟩
          by_cases a5 : s3 = 5
          · simp only [if_neg a0, if_neg a1, if_neg a2, if_neg a3, if_neg a4, if_pos a5]
            rw [e6, e7, Option.bind_some, Option.bind_some]
            dsimp only
            cases r
            · exact ⟨0, ⟨_, rfl, rfl⟩, _, rfl, rfl⟩
            · exact ⟨1, ⟨_, rfl, rfl⟩, _, rfl, rfl⟩
          obtain ⟨j, hj, ej⟩ := hq3 a0 a1 a2 a3 a4 a5
          simp only [if_neg a0, if_neg a1, if_neg a2, if_neg a3, if_neg a4, if_neg a5]
          rw [ej, if_pos (vin_nI hj (by omega)), if_pos (vin_nI hj (by omega)), nc j (by omega), q2 j hj, q4 j hj]
          exact ⟨_, ⟨_, rfl, rfl⟩, _, rfl, rfl⟩
        · obtain ⟨R, hB, ⟨f', mk', p', a1, a2, a3, a4, a5, q1, q2⟩, g', p'', q3, q4⟩ := run_pair (w := 1) (by omega) r1 vb hlim (show 0 < 1009 by omega) k5 (Z6_abs _) (R6_cpI (g := (S 10).2 2) k4) (R6_cpI (g := T.2.1 36) k4) ((S 10).2 9) ((S 10).1 10) ((S 10).1 11) ((S 10).1 12) ((S 10).1 13) ((S 10).1 14)
          obtain ⟨r, ⟨hx', y4, y5, y6, e6⟩, y20', y21', e7⟩ := spec_pair hs (bx := cpI 0 (T.2.1 6) ((S 10).2 1)) (bm := cpI 0 (T.2.1 6) (T.2.1 35)) (nx := f') (nm := g') (fun j hj => by rw [cpI_lt hj, cpI_lt hj]) (fun j hj => by rw [q2 j hj, q4 j hj]) ((S 7).2 3) ((S 7).1 4) ((S 7).1 5) ((S 7).1 6) (T.2.1 20) (T.2.1 21) (nI R.2.1) (nI R.1.2.1) (nI R.1.2.2.1) (nI R.2.2.2)
          rw [if_neg (show ¬ nI 1 = 0 by decide), if_pos (show nI 1 = 1 from rfl)]
          have q1' : f_X0_go (nI lim) (cpI 0 (T.2.1 6) ((S 10).2 2)) 0 0 0 0 0 0 ((S 10).2 9) ((S 10).1 10) ((S 10).1 11) ((S 10).1 12) ((S 10).1 13) ((S 10).1 14) ((S 4).2 0) ((S 4).2 1) ((S 4).2 2) ((S 4).2 3) ((S 4).2 4) ((S 4).1 5) (T.2.1 4) (T.2.1 5) ((S 2).1 3) = _ := q1
          have q3' : f_X12_runsOn (nI 1) (nI lim) (T.2.1 4) (T.2.1 5) (T.2.1 25) (T.2.1 26) (T.2.1 27) (T.2.1 28) (cpI 0 (T.2.1 6) (T.2.1 36)) 0 0 0 0 0 0 = _ := q3
          rw [q1', q3', Option.bind_some, Option.bind_some]
          dsimp only
          by_cases a0 : s3 = 0
          · simp only [if_pos a0]; exact ⟨_, ⟨_, rfl, rfl⟩, _, rfl, rfl⟩
          by_cases a1 : s3 = 1
          · simp only [if_neg a0, if_pos a1]; exact ⟨_, ⟨_, rfl, rfl⟩, _, rfl, rfl⟩
          by_cases a2 : s3 = 2
          · simp only [if_neg a0, if_neg a1, if_pos a2]; exact ⟨_, ⟨_, rfl, rfl⟩, _, rfl, rfl⟩
          by_cases a3 : s3 = 3
          · simp only [if_neg a0, if_neg a1, if_neg a2, if_pos a3]; exact ⟨_, ⟨_, rfl, rfl⟩, _, rfl, rfl⟩
          by_cases a4 : s3 = 4
          · simp only [if_neg a0, if_neg a1, if_neg a2, if_neg a3, if_pos a4]; exact ⟨_, ⟨_, rfl, rfl⟩, _, rfl, rfl⟩
          by_cases a5 : s3 = 5
          · simp only [if_neg a0, if_neg a1, if_neg a2, if_neg a3, if_neg a4, if_pos a5]
            rw [e6, e7, Option.bind_some, Option.bind_some]
            dsimp only
            cases r
            · exact ⟨0, ⟨_, rfl, rfl⟩, _, rfl, rfl⟩
            · exact ⟨1, ⟨_, rfl, rfl⟩, _, rfl, rfl⟩
          obtain ⟨j, hj, ej⟩ := hq3 a0 a1 a2 a3 a4 a5
          simp only [if_neg a0, if_neg a1, if_neg a2, if_neg a3, if_neg a4, if_neg a5]
          rw [ej, if_pos (vin_nI hj (by omega)), if_pos (vin_nI hj (by omega)), nc j (by omega), q2 j hj, q4 j hj]
          exact ⟨_, ⟨_, rfl, rfl⟩, _, rfl, rfl⟩
        · obtain ⟨R, hB, ⟨f', mk', p', a1, a2, a3, a4, a5, q1, q2⟩, g', p'', q3, q4⟩ := run_pair (w := 2) (by omega) r2 vb hlim (show 0 < 1009 by omega) k5 (Z6_abs _) (R6_cpI (g := (S 10).2 2) k4) (R6_cpI (g := T.2.1 36) k4) ((S 10).2 9) ((S 10).1 10) ((S 10).1 11) ((S 10).1 12) ((S 10).1 13) ((S 10).1 14)
          obtain ⟨r, ⟨hx', y4, y5, y6, e6⟩, y20', y21', e7⟩ := spec_pair hs (bx := cpI 0 (T.2.1 6) ((S 10).2 1)) (bm := cpI 0 (T.2.1 6) (T.2.1 35)) (nx := f') (nm := g') (fun j hj => by rw [cpI_lt hj, cpI_lt hj]) (fun j hj => by rw [q2 j hj, q4 j hj]) ((S 7).2 3) ((S 7).1 4) ((S 7).1 5) ((S 7).1 6) (T.2.1 20) (T.2.1 21) (nI R.2.1) (nI R.1.2.1) (nI R.1.2.2.1) (nI R.2.2.2)
          rw [if_neg (show ¬ nI 2 = 0 by decide), if_neg (show ¬ nI 2 = 1 by decide), if_pos (show nI 2 = 2 from rfl)]
          have q1' : f_X0_go (nI lim) (cpI 0 (T.2.1 6) ((S 10).2 2)) 0 0 0 0 0 0 ((S 10).2 9) ((S 10).1 10) ((S 10).1 11) ((S 10).1 12) ((S 10).1 13) ((S 10).1 14) ((S 5).2 0) ((S 5).2 1) ((S 5).2 2) ((S 5).2 3) ((S 5).2 4) ((S 5).1 5) (T.2.1 4) (T.2.1 5) ((S 2).1 3) = _ := q1
          have q3' : f_X12_runsOn (nI 2) (nI lim) (T.2.1 4) (T.2.1 5) (T.2.1 25) (T.2.1 26) (T.2.1 27) (T.2.1 28) (cpI 0 (T.2.1 6) (T.2.1 36)) 0 0 0 0 0 0 = _ := q3
          rw [q1', q3', Option.bind_some, Option.bind_some]
          dsimp only
          by_cases a0 : s3 = 0
          · simp only [if_pos a0]; exact ⟨_, ⟨_, rfl, rfl⟩, _, rfl, rfl⟩
          by_cases a1 : s3 = 1
          · simp only [if_neg a0, if_pos a1]; exact ⟨_, ⟨_, rfl, rfl⟩, _, rfl, rfl⟩
          by_cases a2 : s3 = 2
          · simp only [if_neg a0, if_neg a1, if_pos a2]; exact ⟨_, ⟨_, rfl, rfl⟩, _, rfl, rfl⟩
          by_cases a3 : s3 = 3
          · simp only [if_neg a0, if_neg a1, if_neg a2, if_pos a3]; exact ⟨_, ⟨_, rfl, rfl⟩, _, rfl, rfl⟩
          by_cases a4 : s3 = 4
          · simp only [if_neg a0, if_neg a1, if_neg a2, if_neg a3, if_pos a4]; exact ⟨_, ⟨_, rfl, rfl⟩, _, rfl, rfl⟩
          by_cases a5 : s3 = 5
          · simp only [if_neg a0, if_neg a1, if_neg a2, if_neg a3, if_neg a4, if_pos a5]
            rw [e6, e7, Option.bind_some, Option.bind_some]
            dsimp only
            cases r
            · exact ⟨0, ⟨_, rfl, rfl⟩, _, rfl, rfl⟩
            · exact ⟨1, ⟨_, rfl, rfl⟩, _, rfl, rfl⟩
          obtain ⟨j, hj, ej⟩ := hq3 a0 a1 a2 a3 a4 a5
          simp only [if_neg a0, if_neg a1, if_neg a2, if_neg a3, if_neg a4, if_neg a5]
          rw [ej, if_pos (vin_nI hj (by omega)), if_pos (vin_nI hj (by omega)), nc j (by omega), q2 j hj, q4 j hj]
          exact ⟨_, ⟨_, rfl, rfl⟩, _, rfl, rfl⟩
      · have hX : ∀ c : Prop, c → c := fun _ h => h
        refine ⟨-1, ?_, ?_⟩
        · unfold f_X11_run g_X11_run_0 g_X11_run_20
          rw [w_in, w_in, Option.bind_some, Option.bind_some, if_neg (fun q => h3 (Or.inl q)), if_pos rfl, if_neg (fun q => h3 (Or.inr q)), if_pos rfl]
          unfold g_X11_run_25
          rw [x_isRecipe, if_pos h1, Option.bind_some, if_neg (by decide), w_in, if_pos h2, Option.bind_some, if_neg (by decide), if_pos rfl]
          exact ⟨_, rfl, rfl⟩
        · unfold f_X12_run g_X12_run_0
          rw [m_isRecipe, if_pos h1, Option.bind_some, if_neg (by decide), m_isLimit, if_pos h2, Option.bind_some, if_neg (by decide), m_in, m_in, Option.bind_some, Option.bind_some, if_neg (fun q => h3 (Or.inl q)), if_pos rfl, if_neg (fun q => h3 (Or.inr q)), if_pos rfl]
          exact ⟨_, rfl, rfl⟩
    · refine ⟨-1, ?_, ?_⟩
      · unfold f_X11_run g_X11_run_0 g_X11_run_20 g_X11_run_25
        simp only [x_isRecipe, if_pos h1, Option.bind_some, if_neg (show ¬ (1 : Int32) = 0 by decide), w_in, if_neg h2, if_true, ite_self]
        exact ⟨_, rfl, rfl⟩
      · unfold f_X12_run g_X12_run_0
        rw [m_isRecipe, if_pos h1, Option.bind_some, if_neg (by decide), m_isLimit, if_neg h2]
        exact ⟨_, rfl, rfl⟩
  · refine ⟨-1, ?_, ?_⟩
    · unfold f_X11_run g_X11_run_0 g_X11_run_20 g_X11_run_25
      simp only [x_isRecipe, if_neg h1, Option.bind_some, w_in, if_true, ite_self]
      exact ⟨_, rfl, rfl⟩
    · unfold f_X12_run g_X12_run_0
      rw [m_isRecipe, if_neg h1]
      exact ⟨_, rfl, rfl⟩
