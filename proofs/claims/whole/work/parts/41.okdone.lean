theorem ok_done : Ok_done Rel := by
  intro S T s1 s2 hR
  have hR0 := hR
  obtain ⟨ht, ⟨v1, v2, v3, vb⟩, ⟨r0, r1, r2⟩, hs, hp, hm, ⟨b1, b2, b3, b4, b5, b6⟩, hk⟩ := hR
  by_cases h1 : (0 : Int32) ≤ s1 ∧ s1 ≤ 2
  · by_cases h2 : (1 : Int32) ≤ s2 ∧ s2 ≤ 20000
    · obtain ⟨w, hw, rfl⟩ := of_rng (x := s1) (n := 2) (by omega) h1.1 h1.2
      obtain ⟨lim, hlim, rfl⟩ := of_rng (x := s2) (n := 20000) (by omega) (le_trans32 (by decide) h2.1) h2.2
      obtain ⟨co, hco, eco⟩ := of_rng (x := T.1 3) (n := 1008) (by omega) b6.1 b6.2
      obtain ⟨k1, k2, k3, k4, k5, k6⟩ := RV_abs vb
      have hM : ∀ (R : AS) (g' : Nat → Int32) (p' : Nat), f_X12_runsOn (nI w) (nI lim) (T.2.1 4) (T.2.1 5) (T.2.1 25) (T.2.1 26) (T.2.1 27) (T.2.1 28) (cpI 0 (T.2.1 6) (T.2.1 36)) 0 0 0 0 (nI co) 0 = some (g', nI p', nI R.2.1, nI R.1.2.1, nI R.1.2.2.1, nI R.1.2.2.2, nI R.2.2.2) → f_X12_done (nI w) (nI lim) (T.1 1) (T.1 2) (T.1 3) (T.2.1 4) (T.2.1 5) (T.2.1 6) (T.2.1 25) (T.2.1 26) (T.2.1 27) (T.2.1 28) (T.2.1 35) (T.2.1 36) (T.1 37) (T.1 38) (T.1 39) (T.1 40) (T.1 41) (T.1 42) = some (nI R.2.2.2, T.1 1 + nI R.1.2.1, T.1 2 + nI R.1.2.2.1, nI R.1.2.2.2, cpI 0 g' (T.2.1 6), cpI 0 (T.2.1 6) (T.2.1 35), g', nI p', nI R.2.1, nI R.1.2.1, nI R.1.2.2.1, nI R.1.2.2.2, nI R.2.2.2) := by
        intro R g' p' e
        unfold f_X12_done g_X12_done_0
        rw [m_isRecipe, if_pos h1, Option.bind_some, if_neg (by decide), m_isLimit, if_pos h2, Option.bind_some, if_neg (by decide), m_startmF, Option.bind_some, eco]
        dsimp only
        rw [e, Option.bind_some]
        exact done_loop _ _ _ _ _ _ _ _ _ _ _ _ _ _ _ _ _ FU 0 _ (by omega) (by unfold FU; omega)
      have fin : ∀ (R : AS) (f' mk' g' : Nat → Int32) (p' a1 a2 a3 a4 a5 : Int32) (p'' : Nat), PHb (absN (T.2.1 5)) R.1 → R6 f' R.1.1 → R6 g' R.1.1 → f_X11_done (nI w) (nI lim) ((S 10).2 1) ((S 10).2 2) ((S 10).1 3) ((S 10).1 4) ((S 10).1 5) ((S 10).1 6) ((S 10).1 7) ((S 10).1 8) ((S 10).2 9) ((S 10).1 10) ((S 10).1 11) ((S 10).1 12) ((S 10).1 13) ((S 10).1 14) ((S 16).1 1) ((S 16).1 2) ((S 16).1 3) ((S 2).2 0) ((S 2).2 1) ((S 2).2 2) ((S 2).1 3) ((S 3).2 0) ((S 3).2 1) ((S 3).2 2) ((S 3).2 3) ((S 3).2 4) ((S 3).1 5) ((S 4).2 0) ((S 4).2 1) ((S 4).2 2) ((S 4).2 3) ((S 4).2 4) ((S 4).1 5) ((S 5).2 0) ((S 5).2 1) ((S 5).2 2) ((S 5).2 3) ((S 5).2 4) ((S 5).1 5) = some (nI R.2.2.2, cpI 0 (T.2.1 6) ((S 10).2 1), f', nI R.1.2.1, nI R.1.2.2.1, nI R.1.2.2.2, nI R.2.1, p', nI R.2.2.2, mk', a1, a2, a3, a4, a5, (S 16).1 1 + nI R.1.2.1, (S 16).1 2 + nI R.1.2.2.1, nI R.1.2.2.2, cpI 0 f' ((S 2).2 2)) → f_X12_runsOn (nI w) (nI lim) (T.2.1 4) (T.2.1 5) (T.2.1 25) (T.2.1 26) (T.2.1 27) (T.2.1 28) (cpI 0 (T.2.1 6) (T.2.1 36)) 0 0 0 0 (nI co) 0 = some (g', nI p'', nI R.2.1, nI R.1.2.1, nI R.1.2.2.1, nI R.1.2.2.2, nI R.2.2.2) → ∃ u w', f_X11_done (nI w) (nI lim) ((S 10).2 1) ((S 10).2 2) ((S 10).1 3) ((S 10).1 4) ((S 10).1 5) ((S 10).1 6) ((S 10).1 7) ((S 10).1 8) ((S 10).2 9) ((S 10).1 10) ((S 10).1 11) ((S 10).1 12) ((S 10).1 13) ((S 10).1 14) ((S 16).1 1) ((S 16).1 2) ((S 16).1 3) ((S 2).2 0) ((S 2).2 1) ((S 2).2 2) ((S 2).1 3) ((S 3).2 0) ((S 3).2 1) ((S 3).2 2) ((S 3).2 3) ((S 3).2 4) ((S 3).1 5) ((S 4).2 0) ((S 4).2 1) ((S 4).2 2) ((S 4).2 3) ((S 4).2 4) ((S 4).1 5) ((S 5).2 0) ((S 5).2 1) ((S 5).2 2) ((S 5).2 3) ((S 5).2 4) ((S 5).1 5) = some u ∧ f_X12_done (nI w) (nI lim) (T.1 1) (T.1 2) (T.1 3) (T.2.1 4) (T.2.1 5) (T.2.1 6) (T.2.1 25) (T.2.1 26) (T.2.1 27) (T.2.1 28) (T.2.1 35) (T.2.1 36) (T.1 37) (T.1 38) (T.1 39) (T.1 40) (T.1 41) (T.1 42) = some w' ∧ u.1 = w'.1 ∧ Rel (stX_done S u) (stM_done T w') := by
        intro R f' mk' g' p' a1 a2 a3 a4 a5 p'' hB q1 q2 eX eM
        refine ⟨_, _, eX, hM R g' p'' eM, rfl, ht, ⟨v1, v2, ?_, fun j hj => ?_, vb.2⟩, ⟨r0, r1, r2⟩, hs, hp, hm, ⟨?_, ?_, rfl, b4, b5, ?_⟩, hk⟩
        · show cpI 0 f' ((S 2).2 2) = cpI 0 g' (T.2.1 6)
          rw [v3]
          exact cpI_congr (fun j hj => by rw [q1 j hj, q2 j hj])
        · show inR 0 3 (T.2.1 4 j) ∧ inR 0 99 (T.2.1 5 j) ∧ inR 0 (T.2.1 5 j) (cpI 0 g' (T.2.1 6) j)
          have h5 := hB.1 j hj
          rw [cpI_lt hj, q2 j hj]
          refine ⟨(vb.1 j hj).1, (vb.1 j hj).2.1, ?_⟩
          rw [k3 j hj]
          exact nI_inR h5.1 (by omega)
        · show (S 16).1 1 + nI R.1.2.1 = T.1 1 + nI R.1.2.1
          rw [b1]
        · show (S 16).1 2 + nI R.1.2.2.1 = T.1 2 + nI R.1.2.2.1
          rw [b2]
        · show inR 0 1008 (nI R.1.2.2.2)
          exact nI_inR (N := 1008) (by have := hB.2.2.2; omega) (by omega)
      have vb' : RV (T.2.1 4) (T.2.1 5) (T.2.1 6) ((S 2).1 3) := vb
      rcases (show w = 0 ∨ w = 1 ∨ w = 2 by omega) with rfl | rfl | rfl
      · obtain ⟨R, hB, ⟨f', mk', p', a1, a2, a3, a4, a5, q1, q2⟩, g', p'', q3, q4⟩ := run_pair (w := 0) (by omega) r0 vb' hlim (show co < 1009 by omega) k5 (Z6_abs _) (R6_cpI (g := (S 10).2 2) k4) (R6_cpI (g := T.2.1 36) k4) ((S 10).2 9) ((S 10).1 10) ((S 10).1 11) ((S 10).1 12) ((S 10).1 13) ((S 10).1 14)
        refine fin R f' mk' g' p' a1 a2 a3 a4 a5 p'' hB q2 q4 ?_ q3
        unfold f_X11_done g_X11_done_0
        rw [x_isRecipe, if_pos h1, Option.bind_some, if_neg (by decide), w_in, if_pos h2, Option.bind_some, if_neg (by decide), x_start, Option.bind_some, if_pos (show nI 0 = 0 from rfl), v1, v2, v3, b3, eco]
        dsimp only
        rw [q1, Option.bind_some, x_copyM]
        rfl
      · obtain ⟨R, hB, ⟨f', mk', p', a1, a2, a3, a4, a5, q1, q2⟩, g', p'', q3, q4⟩ := run_pair (w := 1) (by omega) r1 vb' hlim (show co < 1009 by omega) k5 (Z6_abs _) (R6_cpI (g := (S 10).2 2) k4) (R6_cpI (g := T.2.1 36) k4) ((S 10).2 9) ((S 10).1 10) ((S 10).1 11) ((S 10).1 12) ((S 10).1 13) ((S 10).1 14)
        refine fin R f' mk' g' p' a1 a2 a3 a4 a5 p'' hB q2 q4 ?_ q3
        unfold f_X11_done g_X11_done_0
        rw [x_isRecipe, if_pos h1, Option.bind_some, if_neg (by decide), w_in, if_pos h2, Option.bind_some, if_neg (by decide), x_start, Option.bind_some, if_neg (show ¬ nI 1 = 0 by decide), if_pos (show nI 1 = 1 from rfl), v1, v2, v3, b3, eco]
        dsimp only
        rw [q1, Option.bind_some, x_copyM]
        rfl
      · obtain ⟨R, hB, ⟨f', mk', p', a1, a2, a3, a4, a5, q1, q2⟩, g', p'', q3, q4⟩ := run_pair (w := 2) (by omega) r2 vb' hlim (show co < 1009 by omega) k5 (Z6_abs _) (R6_cpI (g := (S 10).2 2) k4) (R6_cpI (g := T.2.1 36) k4) ((S 10).2 9) ((S 10).1 10) ((S 10).1 11) ((S 10).1 12) ((S 10).1 13) ((S 10).1 14)
        refine fin R f' mk' g' p' a1 a2 a3 a4 a5 p'' hB q2 q4 ?_ q3
        unfold f_X11_done g_X11_done_0
        rw [x_isRecipe, if_pos h1, Option.bind_some, if_neg (by decide), w_in, if_pos h2, Option.bind_some, if_neg (by decide), x_start, Option.bind_some, if_neg (show ¬ nI 2 = 0 by decide), if_neg (show ¬ nI 2 = 1 by decide), if_pos (show nI 2 = 2 from rfl), v1, v2, v3, b3, eco]
        dsimp only
        rw [q1, Option.bind_some, x_copyM]
        rfl
    · refine ⟨(-1, (S 10).2 1, (S 10).2 2, (S 10).1 3, (S 10).1 4, (S 10).1 5, (S 10).1 6, (S 10).1 7, (S 10).1 8, (S 10).2 9, (S 10).1 10, (S 10).1 11, (S 10).1 12, (S 10).1 13, (S 10).1 14, (S 16).1 1, (S 16).1 2, (S 16).1 3, (S 2).2 2), (-1, T.1 1, T.1 2, T.1 3, T.2.1 6, T.2.1 35, T.2.1 36, T.1 37, T.1 38, T.1 39, T.1 40, T.1 41, T.1 42), ?_, ?_, rfl, ht, ⟨v1, v2, v3, vb⟩, ⟨r0, r1, r2⟩, hs, hp, hm, ⟨b1, b2, b3, b4, b5, b6⟩, hk⟩
      · unfold f_X11_done g_X11_done_0
        rw [x_isRecipe, if_pos h1, Option.bind_some, if_neg (by decide), w_in, if_neg h2]; rfl
      · unfold f_X12_done g_X12_done_0
        rw [m_isRecipe, if_pos h1, Option.bind_some, if_neg (by decide), m_isLimit, if_neg h2]; rfl
  · refine ⟨(-1, (S 10).2 1, (S 10).2 2, (S 10).1 3, (S 10).1 4, (S 10).1 5, (S 10).1 6, (S 10).1 7, (S 10).1 8, (S 10).2 9, (S 10).1 10, (S 10).1 11, (S 10).1 12, (S 10).1 13, (S 10).1 14, (S 16).1 1, (S 16).1 2, (S 16).1 3, (S 2).2 2), (-1, T.1 1, T.1 2, T.1 3, T.2.1 6, T.2.1 35, T.2.1 36, T.1 37, T.1 38, T.1 39, T.1 40, T.1 41, T.1 42), ?_, ?_, rfl, ht, ⟨v1, v2, v3, vb⟩, ⟨r0, r1, r2⟩, hs, hp, hm, ⟨b1, b2, b3, b4, b5, b6⟩, hk⟩
    · unfold f_X11_done g_X11_done_0
      rw [x_isRecipe, if_neg h1]; rfl
    · unfold f_X12_done g_X12_done_0
      rw [m_isRecipe, if_neg h1]; rfl
