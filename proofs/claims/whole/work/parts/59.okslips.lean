theorem ok_slips : Ok_slips Rel := by
  intro S T s1 s2 s3 hR
  have hR0 := hR
  obtain ⟨ht, ⟨v1, v2, v3, vb⟩, ⟨r0, r1, r2⟩, hs, hp, hm, hb, hk⟩ := hR
  have hRel : ∀ u w, Rel (stX_slips S u) (stM_slips T w) := fun u w => ⟨ht, ⟨v1, v2, v3, vb⟩, ⟨r0, r1, r2⟩, hs, hp, hm, hb, hk⟩
  unfold f_X11_slips g_X11_slips_0 f_X12_slips g_X12_slips_0
  rw [x_isRecipe, m_isRecipe, Option.bind_some, Option.bind_some]
  by_cases h1 : (0 : Int32) ≤ s1 ∧ s1 ≤ 2
  · simp only [if_pos h1, if_neg (show ¬ (1 : Int32) = 0 by decide)]
    rw [w_in, m_in, Option.bind_some, Option.bind_some]
    by_cases h2 : (1 : Int32) ≤ s2 ∧ s2 ≤ 2000
    · simp only [if_pos h2, if_neg (show ¬ (1 : Int32) = 0 by decide)]
      rw [w_in, m_in, Option.bind_some, Option.bind_some]
      by_cases h3 : (0 : Int32) ≤ s3 ∧ s3 ≤ 3
      · simp only [if_pos h3, if_neg (show ¬ (1 : Int32) = 0 by decide)]
        obtain ⟨w, hw, rfl⟩ := of_rng (x := s1) (n := 2) (by omega) h1.1 h1.2
        obtain ⟨lim, hlim, rfl⟩ := of_rng (x := s2) (n := 2000) (by omega) (le_trans32 (by decide) h2.1) h2.2
        obtain ⟨k, hk3, rfl⟩ := of_rng (x := s3) (n := 3) (by omega) h3.1 h3.2
        rw [v1, v2, v3]
        rcases (show w = 0 ∨ w = 1 ∨ w = 2 by omega) with rfl | rfl | rfl
        · rcases (show k = 0 ∨ k = 1 ∨ k = 2 ∨ k = 3 by omega) with rfl | rfl | rfl | rfl
          · obtain ⟨r, ⟨u, a1, a2⟩, u4, u5, u', a3, a4, a5, a6⟩ := slips_both hs (w := 0) (by omega) r0 vb (lim := lim) (t := 0) hlim (by omega) (v3 := nI 0) (Or.inl ⟨by decide, rfl⟩) false ⟨fun x => absurd x (by decide), fun x => absurd x (by decide)⟩ ((S 10).2 1) ((S 10).2 2) ((S 10).1 3) ((S 10).1 4) ((S 10).1 5) ((S 10).1 6) ((S 10).1 7) ((S 10).1 8) ((S 11).2 1) ((S 11).2 2) ((S 11).1 3) ((S 11).1 4) ((S 11).1 5) ((S 11).1 6) ((S 11).1 7) ((S 11).1 8) ((S 11).2 9) ((S 11).1 10) ((S 11).1 11) ((S 11).1 12) ((S 11).1 13) ((S 11).1 14) ((S 7).2 3) ((S 7).1 4) ((S 7).1 5) ((S 7).1 6)
            have a1' : f_X11_unfelt (nI lim) 0 0 ((S 3).2 0) ((S 3).2 1) ((S 3).2 2) ((S 3).2 3) ((S 3).2 4) ((S 3).1 5) ((S 10).2 1) ((S 10).2 2) ((S 10).1 3) ((S 10).1 4) ((S 10).1 5) ((S 10).1 6) ((S 10).1 7) ((S 10).1 8) ((S 11).2 1) ((S 11).2 2) ((S 11).1 3) ((S 11).1 4) ((S 11).1 5) ((S 11).1 6) ((S 11).1 7) ((S 11).1 8) ((S 11).2 9) ((S 11).1 10) ((S 11).1 11) ((S 11).1 12) ((S 11).1 13) ((S 11).1 14) ((S 7).2 0) ((S 7).2 1) ((S 7).1 2) ((S 7).2 3) ((S 7).1 4) ((S 7).1 5) ((S 7).1 6) (T.2.1 4) (T.2.1 5) (T.2.1 6) ((S 2).1 3) = some u := a1
            rw [if_pos (show nI 0 &&& 1 = 0 by decide)]
            unfold g_X11_slips_40
            rw [if_pos (show nI 0 = 0 from rfl), if_pos (show nI 0 < 2 by decide), a1', Option.bind_some, a3, Option.bind_some, a4, Option.bind_some, a5]
            exact ⟨_, _, rfl, rfl, a2.trans a6.symm, hRel _ _⟩
          · obtain ⟨r, ⟨u, a1, a2⟩, u4, u5, u', a3, a4, a5, a6⟩ := slips_both hs (w := 0) (by omega) r0 vb (lim := lim) (t := 2) hlim (by omega) (v3 := nI 1) (Or.inr ⟨by decide, rfl⟩) false ⟨fun x => absurd x (by decide), fun x => absurd x (by decide)⟩ ((S 10).2 1) ((S 10).2 2) ((S 10).1 3) ((S 10).1 4) ((S 10).1 5) ((S 10).1 6) ((S 10).1 7) ((S 10).1 8) ((S 11).2 1) ((S 11).2 2) ((S 11).1 3) ((S 11).1 4) ((S 11).1 5) ((S 11).1 6) ((S 11).1 7) ((S 11).1 8) ((S 11).2 9) ((S 11).1 10) ((S 11).1 11) ((S 11).1 12) ((S 11).1 13) ((S 11).1 14) ((S 7).2 3) ((S 7).1 4) ((S 7).1 5) ((S 7).1 6)
            have a1' : f_X11_unfelt (nI lim) 2 0 ((S 3).2 0) ((S 3).2 1) ((S 3).2 2) ((S 3).2 3) ((S 3).2 4) ((S 3).1 5) ((S 10).2 1) ((S 10).2 2) ((S 10).1 3) ((S 10).1 4) ((S 10).1 5) ((S 10).1 6) ((S 10).1 7) ((S 10).1 8) ((S 11).2 1) ((S 11).2 2) ((S 11).1 3) ((S 11).1 4) ((S 11).1 5) ((S 11).1 6) ((S 11).1 7) ((S 11).1 8) ((S 11).2 9) ((S 11).1 10) ((S 11).1 11) ((S 11).1 12) ((S 11).1 13) ((S 11).1 14) ((S 7).2 0) ((S 7).2 1) ((S 7).1 2) ((S 7).2 3) ((S 7).1 4) ((S 7).1 5) ((S 7).1 6) (T.2.1 4) (T.2.1 5) (T.2.1 6) ((S 2).1 3) = some u := a1
            rw [if_neg (show ¬ nI 1 &&& 1 = 0 by decide)]
            unfold g_X11_slips_40
            rw [if_pos (show nI 0 = 0 from rfl), if_pos (show nI 1 < 2 by decide), a1', Option.bind_some, a3, Option.bind_some, a4, Option.bind_some, a5]
            exact ⟨_, _, rfl, rfl, a2.trans a6.symm, hRel _ _⟩
          · obtain ⟨r, ⟨u, a1, a2⟩, u4, u5, u', a3, a4, a5, a6⟩ := slips_both hs (w := 0) (by omega) r0 vb (lim := lim) (t := 0) hlim (by omega) (v3 := nI 2) (Or.inl ⟨by decide, rfl⟩) true ⟨fun _ => rfl, fun _ => by decide⟩ ((S 10).2 1) ((S 10).2 2) ((S 10).1 3) ((S 10).1 4) ((S 10).1 5) ((S 10).1 6) ((S 10).1 7) ((S 10).1 8) ((S 11).2 1) ((S 11).2 2) ((S 11).1 3) ((S 11).1 4) ((S 11).1 5) ((S 11).1 6) ((S 11).1 7) ((S 11).1 8) ((S 11).2 9) ((S 11).1 10) ((S 11).1 11) ((S 11).1 12) ((S 11).1 13) ((S 11).1 14) ((S 7).2 3) ((S 7).1 4) ((S 7).1 5) ((S 7).1 6)
            have a1' : f_X11_unfelt (nI lim) 0 1 ((S 3).2 0) ((S 3).2 1) ((S 3).2 2) ((S 3).2 3) ((S 3).2 4) ((S 3).1 5) ((S 10).2 1) ((S 10).2 2) ((S 10).1 3) ((S 10).1 4) ((S 10).1 5) ((S 10).1 6) ((S 10).1 7) ((S 10).1 8) ((S 11).2 1) ((S 11).2 2) ((S 11).1 3) ((S 11).1 4) ((S 11).1 5) ((S 11).1 6) ((S 11).1 7) ((S 11).1 8) ((S 11).2 9) ((S 11).1 10) ((S 11).1 11) ((S 11).1 12) ((S 11).1 13) ((S 11).1 14) ((S 7).2 0) ((S 7).2 1) ((S 7).1 2) ((S 7).2 3) ((S 7).1 4) ((S 7).1 5) ((S 7).1 6) (T.2.1 4) (T.2.1 5) (T.2.1 6) ((S 2).1 3) = some u := a1
            rw [if_pos (show nI 2 &&& 1 = 0 by decide)]
            unfold g_X11_slips_40
            rw [if_pos (show nI 0 = 0 from rfl), if_neg (show ¬ nI 2 < 2 by decide), a1', Option.bind_some, a3, Option.bind_some, a4, Option.bind_some, a5]
            exact ⟨_, _, rfl, rfl, a2.trans a6.symm, hRel _ _⟩
          · obtain ⟨r, ⟨u, a1, a2⟩, u4, u5, u', a3, a4, a5, a6⟩ := slips_both hs (w := 0) (by omega) r0 vb (lim := lim) (t := 2) hlim (by omega) (v3 := nI 3) (Or.inr ⟨by decide, rfl⟩) true ⟨fun _ => rfl, fun _ => by decide⟩ ((S 10).2 1) ((S 10).2 2) ((S 10).1 3) ((S 10).1 4) ((S 10).1 5) ((S 10).1 6) ((S 10).1 7) ((S 10).1 8) ((S 11).2 1) ((S 11).2 2) ((S 11).1 3) ((S 11).1 4) ((S 11).1 5) ((S 11).1 6) ((S 11).1 7) ((S 11).1 8) ((S 11).2 9) ((S 11).1 10) ((S 11).1 11) ((S 11).1 12) ((S 11).1 13) ((S 11).1 14) ((S 7).2 3) ((S 7).1 4) ((S 7).1 5) ((S 7).1 6)
            have a1' : f_X11_unfelt (nI lim) 2 1 ((S 3).2 0) ((S 3).2 1) ((S 3).2 2) ((S 3).2 3) ((S 3).2 4) ((S 3).1 5) ((S 10).2 1) ((S 10).2 2) ((S 10).1 3) ((S 10).1 4) ((S 10).1 5) ((S 10).1 6) ((S 10).1 7) ((S 10).1 8) ((S 11).2 1) ((S 11).2 2) ((S 11).1 3) ((S 11).1 4) ((S 11).1 5) ((S 11).1 6) ((S 11).1 7) ((S 11).1 8) ((S 11).2 9) ((S 11).1 10) ((S 11).1 11) ((S 11).1 12) ((S 11).1 13) ((S 11).1 14) ((S 7).2 0) ((S 7).2 1) ((S 7).1 2) ((S 7).2 3) ((S 7).1 4) ((S 7).1 5) ((S 7).1 6) (T.2.1 4) (T.2.1 5) (T.2.1 6) ((S 2).1 3) = some u := a1
            rw [if_neg (show ¬ nI 3 &&& 1 = 0 by decide)]
            unfold g_X11_slips_40
            rw [if_pos (show nI 0 = 0 from rfl), if_neg (show ¬ nI 3 < 2 by decide), a1', Option.bind_some, a3, Option.bind_some, a4, Option.bind_some, a5]
            exact ⟨_, _, rfl, rfl, a2.trans a6.symm, hRel _ _⟩
        · rcases (show k = 0 ∨ k = 1 ∨ k = 2 ∨ k = 3 by omega) with rfl | rfl | rfl | rfl
          · obtain ⟨r, ⟨u, a1, a2⟩, u4, u5, u', a3, a4, a5, a6⟩ := slips_both hs (w := 1) (by omega) r1 vb (lim := lim) (t := 0) hlim (by omega) (v3 := nI 0) (Or.inl ⟨by decide, rfl⟩) false ⟨fun x => absurd x (by decide), fun x => absurd x (by decide)⟩ ((S 10).2 1) ((S 10).2 2) ((S 10).1 3) ((S 10).1 4) ((S 10).1 5) ((S 10).1 6) ((S 10).1 7) ((S 10).1 8) ((S 11).2 1) ((S 11).2 2) ((S 11).1 3) ((S 11).1 4) ((S 11).1 5) ((S 11).1 6) ((S 11).1 7) ((S 11).1 8) ((S 11).2 9) ((S 11).1 10) ((S 11).1 11) ((S 11).1 12) ((S 11).1 13) ((S 11).1 14) ((S 7).2 3) ((S 7).1 4) ((S 7).1 5) ((S 7).1 6)
            have a1' : f_X11_unfelt (nI lim) 0 0 ((S 4).2 0) ((S 4).2 1) ((S 4).2 2) ((S 4).2 3) ((S 4).2 4) ((S 4).1 5) ((S 10).2 1) ((S 10).2 2) ((S 10).1 3) ((S 10).1 4) ((S 10).1 5) ((S 10).1 6) ((S 10).1 7) ((S 10).1 8) ((S 11).2 1) ((S 11).2 2) ((S 11).1 3) ((S 11).1 4) ((S 11).1 5) ((S 11).1 6) ((S 11).1 7) ((S 11).1 8) ((S 11).2 9) ((S 11).1 10) ((S 11).1 11) ((S 11).1 12) ((S 11).1 13) ((S 11).1 14) ((S 7).2 0) ((S 7).2 1) ((S 7).1 2) ((S 7).2 3) ((S 7).1 4) ((S 7).1 5) ((S 7).1 6) (T.2.1 4) (T.2.1 5) (T.2.1 6) ((S 2).1 3) = some u := a1
            rw [if_pos (show nI 0 &&& 1 = 0 by decide)]
            unfold g_X11_slips_40
            rw [if_neg (show ¬ nI 1 = 0 by decide), if_pos (show nI 1 = 1 from rfl), if_pos (show nI 0 < 2 by decide), a1', Option.bind_some, a3, Option.bind_some, a4, Option.bind_some, a5]
            exact ⟨_, _, rfl, rfl, a2.trans a6.symm, hRel _ _⟩
          · obtain ⟨r, ⟨u, a1, a2⟩, u4, u5, u', a3, a4, a5, a6⟩ := slips_both hs (w := 1) (by omega) r1 vb (lim := lim) (t := 2) hlim (by omega) (v3 := nI 1) (Or.inr ⟨by decide, rfl⟩) false ⟨fun x => absurd x (by decide), fun x => absurd x (by decide)⟩ ((S 10).2 1) ((S 10).2 2) ((S 10).1 3) ((S 10).1 4) ((S 10).1 5) ((S 10).1 6) ((S 10).1 7) ((S 10).1 8) ((S 11).2 1) ((S 11).2 2) ((S 11).1 3) ((S 11).1 4) ((S 11).1 5) ((S 11).1 6) ((S 11).1 7) ((S 11).1 8) ((S 11).2 9) ((S 11).1 10) ((S 11).1 11) ((S 11).1 12) ((S 11).1 13) ((S 11).1 14) ((S 7).2 3) ((S 7).1 4) ((S 7).1 5) ((S 7).1 6)
            have a1' : f_X11_unfelt (nI lim) 2 0 ((S 4).2 0) ((S 4).2 1) ((S 4).2 2) ((S 4).2 3) ((S 4).2 4) ((S 4).1 5) ((S 10).2 1) ((S 10).2 2) ((S 10).1 3) ((S 10).1 4) ((S 10).1 5) ((S 10).1 6) ((S 10).1 7) ((S 10).1 8) ((S 11).2 1) ((S 11).2 2) ((S 11).1 3) ((S 11).1 4) ((S 11).1 5) ((S 11).1 6) ((S 11).1 7) ((S 11).1 8) ((S 11).2 9) ((S 11).1 10) ((S 11).1 11) ((S 11).1 12) ((S 11).1 13) ((S 11).1 14) ((S 7).2 0) ((S 7).2 1) ((S 7).1 2) ((S 7).2 3) ((S 7).1 4) ((S 7).1 5) ((S 7).1 6) (T.2.1 4) (T.2.1 5) (T.2.1 6) ((S 2).1 3) = some u := a1
            rw [if_neg (show ¬ nI 1 &&& 1 = 0 by decide)]
            unfold g_X11_slips_40
            rw [if_neg (show ¬ nI 1 = 0 by decide), if_pos (show nI 1 = 1 from rfl), if_pos (show nI 1 < 2 by decide), a1', Option.bind_some, a3, Option.bind_some, a4, Option.bind_some, a5]
            exact ⟨_, _, rfl, rfl, a2.trans a6.symm, hRel _ _⟩
          · obtain ⟨r, ⟨u, a1, a2⟩, u4, u5, u', a3, a4, a5, a6⟩ := slips_both hs (w := 1) (by omega) r1 vb (lim := lim) (t := 0) hlim (by omega) (v3 := nI 2) (Or.inl ⟨by decide, rfl⟩) true ⟨fun _ => rfl, fun _ => by decide⟩ ((S 10).2 1) ((S 10).2 2) ((S 10).1 3) ((S 10).1 4) ((S 10).1 5) ((S 10).1 6) ((S 10).1 7) ((S 10).1 8) ((S 11).2 1) ((S 11).2 2) ((S 11).1 3) ((S 11).1 4) ((S 11).1 5) ((S 11).1 6) ((S 11).1 7) ((S 11).1 8) ((S 11).2 9) ((S 11).1 10) ((S 11).1 11) ((S 11).1 12) ((S 11).1 13) ((S 11).1 14) ((S 7).2 3) ((S 7).1 4) ((S 7).1 5) ((S 7).1 6)
            have a1' : f_X11_unfelt (nI lim) 0 1 ((S 4).2 0) ((S 4).2 1) ((S 4).2 2) ((S 4).2 3) ((S 4).2 4) ((S 4).1 5) ((S 10).2 1) ((S 10).2 2) ((S 10).1 3) ((S 10).1 4) ((S 10).1 5) ((S 10).1 6) ((S 10).1 7) ((S 10).1 8) ((S 11).2 1) ((S 11).2 2) ((S 11).1 3) ((S 11).1 4) ((S 11).1 5) ((S 11).1 6) ((S 11).1 7) ((S 11).1 8) ((S 11).2 9) ((S 11).1 10) ((S 11).1 11) ((S 11).1 12) ((S 11).1 13) ((S 11).1 14) ((S 7).2 0) ((S 7).2 1) ((S 7).1 2) ((S 7).2 3) ((S 7).1 4) ((S 7).1 5) ((S 7).1 6) (T.2.1 4) (T.2.1 5) (T.2.1 6) ((S 2).1 3) = some u := a1
            rw [if_pos (show nI 2 &&& 1 = 0 by decide)]
            unfold g_X11_slips_40
            rw [if_neg (show ¬ nI 1 = 0 by decide), if_pos (show nI 1 = 1 from rfl), if_neg (show ¬ nI 2 < 2 by decide), a1', Option.bind_some, a3, Option.bind_some, a4, Option.bind_some, a5]
            exact ⟨_, _, rfl, rfl, a2.trans a6.symm, hRel _ _⟩
          · obtain ⟨r, ⟨u, a1, a2⟩, u4, u5, u', a3, a4, a5, a6⟩ := slips_both hs (w := 1) (by omega) r1 vb (lim := lim) (t := 2) hlim (by omega) (v3 := nI 3) (Or.inr ⟨by decide, rfl⟩) true ⟨fun _ => rfl, fun _ => by decide⟩ ((S 10).2 1) ((S 10).2 2) ((S 10).1 3) ((S 10).1 4) ((S 10).1 5) ((S 10).1 6) ((S 10).1 7) ((S 10).1 8) ((S 11).2 1) ((S 11).2 2) ((S 11).1 3) ((S 11).1 4) ((S 11).1 5) ((S 11).1 6) ((S 11).1 7) ((S 11).1 8) ((S 11).2 9) ((S 11).1 10) ((S 11).1 11) ((S 11).1 12) ((S 11).1 13) ((S 11).1 14) ((S 7).2 3) ((S 7).1 4) ((S 7).1 5) ((S 7).1 6)
            have a1' : f_X11_unfelt (nI lim) 2 1 ((S 4).2 0) ((S 4).2 1) ((S 4).2 2) ((S 4).2 3) ((S 4).2 4) ((S 4).1 5) ((S 10).2 1) ((S 10).2 2) ((S 10).1 3) ((S 10).1 4) ((S 10).1 5) ((S 10).1 6) ((S 10).1 7) ((S 10).1 8) ((S 11).2 1) ((S 11).2 2) ((S 11).1 3) ((S 11).1 4) ((S 11).1 5) ((S 11).1 6) ((S 11).1 7) ((S 11).1 8) ((S 11).2 9) ((S 11).1 10) ((S 11).1 11) ((S 11).1 12) ((S 11).1 13) ((S 11).1 14) ((S 7).2 0) ((S 7).2 1) ((S 7).1 2) ((S 7).2 3) ((S 7).1 4) ((S 7).1 5) ((S 7).1 6) (T.2.1 4) (T.2.1 5) (T.2.1 6) ((S 2).1 3) = some u := a1
            rw [if_neg (show ¬ nI 3 &&& 1 = 0 by decide)]
            unfold g_X11_slips_40
            rw [if_neg (show ¬ nI 1 = 0 by decide), if_pos (show nI 1 = 1 from rfl), if_neg (show ¬ nI 3 < 2 by decide), a1', Option.bind_some, a3, Option.bind_some, a4, Option.bind_some, a5]
            exact ⟨_, _, rfl, rfl, a2.trans a6.symm, hRel _ _⟩
        · rcases (show k = 0 ∨ k = 1 ∨ k = 2 ∨ k = 3 by omega) with rfl | rfl | rfl | rfl
          · obtain ⟨r, ⟨u, a1, a2⟩, u4, u5, u', a3, a4, a5, a6⟩ := slips_both hs (w := 2) (by omega) r2 vb (lim := lim) (t := 0) hlim (by omega) (v3 := nI 0) (Or.inl ⟨by decide, rfl⟩) false ⟨fun x => absurd x (by decide), fun x => absurd x (by decide)⟩ ((S 10).2 1) ((S 10).2 2) ((S 10).1 3) ((S 10).1 4) ((S 10).1 5) ((S 10).1 6) ((S 10).1 7) ((S 10).1 8) ((S 11).2 1) ((S 11).2 2) ((S 11).1 3) ((S 11).1 4) ((S 11).1 5) ((S 11).1 6) ((S 11).1 7) ((S 11).1 8) ((S 11).2 9) ((S 11).1 10) ((S 11).1 11) ((S 11).1 12) ((S 11).1 13) ((S 11).1 14) ((S 7).2 3) ((S 7).1 4) ((S 7).1 5) ((S 7).1 6)
            have a1' : f_X11_unfelt (nI lim) 0 0 ((S 5).2 0) ((S 5).2 1) ((S 5).2 2) ((S 5).2 3) ((S 5).2 4) ((S 5).1 5) ((S 10).2 1) ((S 10).2 2) ((S 10).1 3) ((S 10).1 4) ((S 10).1 5) ((S 10).1 6) ((S 10).1 7) ((S 10).1 8) ((S 11).2 1) ((S 11).2 2) ((S 11).1 3) ((S 11).1 4) ((S 11).1 5) ((S 11).1 6) ((S 11).1 7) ((S 11).1 8) ((S 11).2 9) ((S 11).1 10) ((S 11).1 11) ((S 11).1 12) ((S 11).1 13) ((S 11).1 14) ((S 7).2 0) ((S 7).2 1) ((S 7).1 2) ((S 7).2 3) ((S 7).1 4) ((S 7).1 5) ((S 7).1 6) (T.2.1 4) (T.2.1 5) (T.2.1 6) ((S 2).1 3) = some u := a1
            rw [if_pos (show nI 0 &&& 1 = 0 by decide)]
            unfold g_X11_slips_40
            rw [if_neg (show ¬ nI 2 = 0 by decide), if_neg (show ¬ nI 2 = 1 by decide), if_pos (show nI 2 = 2 from rfl), if_pos (show nI 0 < 2 by decide), a1', Option.bind_some, a3, Option.bind_some, a4, Option.bind_some, a5]
            exact ⟨_, _, rfl, rfl, a2.trans a6.symm, hRel _ _⟩
          · obtain ⟨r, ⟨u, a1, a2⟩, u4, u5, u', a3, a4, a5, a6⟩ := slips_both hs (w := 2) (by omega) r2 vb (lim := lim) (t := 2) hlim (by omega) (v3 := nI 1) (Or.inr ⟨by decide, rfl⟩) false ⟨fun x => absurd x (by decide), fun x => absurd x (by decide)⟩ ((S 10).2 1) ((S 10).2 2) ((S 10).1 3) ((S 10).1 4) ((S 10).1 5) ((S 10).1 6) ((S 10).1 7) ((S 10).1 8) ((S 11).2 1) ((S 11).2 2) ((S 11).1 3) ((S 11).1 4) ((S 11).1 5) ((S 11).1 6) ((S 11).1 7) ((S 11).1 8) ((S 11).2 9) ((S 11).1 10) ((S 11).1 11) ((S 11).1 12) ((S 11).1 13) ((S 11).1 14) ((S 7).2 3) ((S 7).1 4) ((S 7).1 5) ((S 7).1 6)
            have a1' : f_X11_unfelt (nI lim) 2 0 ((S 5).2 0) ((S 5).2 1) ((S 5).2 2) ((S 5).2 3) ((S 5).2 4) ((S 5).1 5) ((S 10).2 1) ((S 10).2 2) ((S 10).1 3) ((S 10).1 4) ((S 10).1 5) ((S 10).1 6) ((S 10).1 7) ((S 10).1 8) ((S 11).2 1) ((S 11).2 2) ((S 11).1 3) ((S 11).1 4) ((S 11).1 5) ((S 11).1 6) ((S 11).1 7) ((S 11).1 8) ((S 11).2 9) ((S 11).1 10) ((S 11).1 11) ((S 11).1 12) ((S 11).1 13) ((S 11).1 14) ((S 7).2 0) ((S 7).2 1) ((S 7).1 2) ((S 7).2 3) ((S 7).1 4) ((S 7).1 5) ((S 7).1 6) (T.2.1 4) (T.2.1 5) (T.2.1 6) ((S 2).1 3) = some u := a1
            rw [if_neg (show ¬ nI 1 &&& 1 = 0 by decide)]
            unfold g_X11_slips_40
            rw [if_neg (show ¬ nI 2 = 0 by decide), if_neg (show ¬ nI 2 = 1 by decide), if_pos (show nI 2 = 2 from rfl), if_pos (show nI 1 < 2 by decide), a1', Option.bind_some, a3, Option.bind_some, a4, Option.bind_some, a5]
            exact ⟨_, _, rfl, rfl, a2.trans a6.symm, hRel _ _⟩
          · obtain ⟨r, ⟨u, a1, a2⟩, u4, u5, u', a3, a4, a5, a6⟩ := slips_both hs (w := 2) (by omega) r2 vb (lim := lim) (t := 0) hlim (by omega) (v3 := nI 2) (Or.inl ⟨by decide, rfl⟩) true ⟨fun _ => rfl, fun _ => by decide⟩ ((S 10).2 1) ((S 10).2 2) ((S 10).1 3) ((S 10).1 4) ((S 10).1 5) ((S 10).1 6) ((S 10).1 7) ((S 10).1 8) ((S 11).2 1) ((S 11).2 2) ((S 11).1 3) ((S 11).1 4) ((S 11).1 5) ((S 11).1 6) ((S 11).1 7) ((S 11).1 8) ((S 11).2 9) ((S 11).1 10) ((S 11).1 11) ((S 11).1 12) ((S 11).1 13) ((S 11).1 14) ((S 7).2 3) ((S 7).1 4) ((S 7).1 5) ((S 7).1 6)
            have a1' : f_X11_unfelt (nI lim) 0 1 ((S 5).2 0) ((S 5).2 1) ((S 5).2 2) ((S 5).2 3) ((S 5).2 4) ((S 5).1 5) ((S 10).2 1) ((S 10).2 2) ((S 10).1 3) ((S 10).1 4) ((S 10).1 5) ((S 10).1 6) ((S 10).1 7) ((S 10).1 8) ((S 11).2 1) ((S 11).2 2) ((S 11).1 3) ((S 11).1 4) ((S 11).1 5) ((S 11).1 6) ((S 11).1 7) ((S 11).1 8) ((S 11).2 9) ((S 11).1 10) ((S 11).1 11) ((S 11).1 12) ((S 11).1 13) ((S 11).1 14) ((S 7).2 0) ((S 7).2 1) ((S 7).1 2) ((S 7).2 3) ((S 7).1 4) ((S 7).1 5) ((S 7).1 6) (T.2.1 4) (T.2.1 5) (T.2.1 6) ((S 2).1 3) = some u := a1
            rw [if_pos (show nI 2 &&& 1 = 0 by decide)]
            unfold g_X11_slips_40
            rw [if_neg (show ¬ nI 2 = 0 by decide), if_neg (show ¬ nI 2 = 1 by decide), if_pos (show nI 2 = 2 from rfl), if_neg (show ¬ nI 2 < 2 by decide), a1', Option.bind_some, a3, Option.bind_some, a4, Option.bind_some, a5]
            exact ⟨_, _, rfl, rfl, a2.trans a6.symm, hRel _ _⟩
          · obtain ⟨r, ⟨u, a1, a2⟩, u4, u5, u', a3, a4, a5, a6⟩ := slips_both hs (w := 2) (by omega) r2 vb (lim := lim) (t := 2) hlim (by omega) (v3 := nI 3) (Or.inr ⟨by decide, rfl⟩) true ⟨fun _ => rfl, fun _ => by decide⟩ ((S 10).2 1) ((S 10).2 2) ((S 10).1 3) ((S 10).1 4) ((S 10).1 5) ((S 10).1 6) ((S 10).1 7) ((S 10).1 8) ((S 11).2 1) ((S 11).2 2) ((S 11).1 3) ((S 11).1 4) ((S 11).1 5) ((S 11).1 6) ((S 11).1 7) ((S 11).1 8) ((S 11).2 9) ((S 11).1 10) ((S 11).1 11) ((S 11).1 12) ((S 11).1 13) ((S 11).1 14) ((S 7).2 3) ((S 7).1 4) ((S 7).1 5) ((S 7).1 6)
            have a1' : f_X11_unfelt (nI lim) 2 1 ((S 5).2 0) ((S 5).2 1) ((S 5).2 2) ((S 5).2 3) ((S 5).2 4) ((S 5).1 5) ((S 10).2 1) ((S 10).2 2) ((S 10).1 3) ((S 10).1 4) ((S 10).1 5) ((S 10).1 6) ((S 10).1 7) ((S 10).1 8) ((S 11).2 1) ((S 11).2 2) ((S 11).1 3) ((S 11).1 4) ((S 11).1 5) ((S 11).1 6) ((S 11).1 7) ((S 11).1 8) ((S 11).2 9) ((S 11).1 10) ((S 11).1 11) ((S 11).1 12) ((S 11).1 13) ((S 11).1 14) ((S 7).2 0) ((S 7).2 1) ((S 7).1 2) ((S 7).2 3) ((S 7).1 4) ((S 7).1 5) ((S 7).1 6) (T.2.1 4) (T.2.1 5) (T.2.1 6) ((S 2).1 3) = some u := a1
            rw [if_neg (show ¬ nI 3 &&& 1 = 0 by decide)]
            unfold g_X11_slips_40
            rw [if_neg (show ¬ nI 2 = 0 by decide), if_neg (show ¬ nI 2 = 1 by decide), if_pos (show nI 2 = 2 from rfl), if_neg (show ¬ nI 3 < 2 by decide), a1', Option.bind_some, a3, Option.bind_some, a4, Option.bind_some, a5]
            exact ⟨_, _, rfl, rfl, a2.trans a6.symm, hRel _ _⟩
      · simp only [if_neg h3, if_true]
        exact ⟨_, _, rfl, rfl, rfl, hRel _ _⟩
    · simp only [if_neg h2, if_true]
      exact ⟨_, _, rfl, rfl, rfl, hRel _ _⟩
  · simp only [if_neg h1, if_true]
    exact ⟨_, _, rfl, rfl, rfl, hRel _ _⟩
