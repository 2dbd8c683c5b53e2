theorem round_both {T : MS} {w : Nat} (hw3 : w < 3) {c fi se nx ot : Nat → Int32} {sz ac : Int32} (hRR : RR w c fi se nx ot sz ac (T.2.1 25) (T.2.1 26) (T.2.1 27) (T.2.1 28) (T.2.1 29)) {rs : Int32} (vb : RV (T.2.1 4) (T.2.1 5) (T.2.1 6) rs) {v2 : Int32} (hv2 : v2 = 0 ∨ v2 = 1 ∨ v2 = 2) (x3 x4 x5 : Int32) (d1 d2 : Nat → Int32) (e3 e4 e5 e6 e7 e8 : Int32) (k1 k2 : Nat → Int32) (l3 l4 l5 l6 l7 l8 : Int32) :
    ∃ u u3 u4 u', f_X5_seek x3 x4 x5 c fi se nx ot sz d1 d2 e3 e4 e5 e6 e7 e8 k1 k2 l3 l4 l5 l6 l7 l8 (T.2.1 4) (T.2.1 5) (T.2.1 6) rs = some u ∧ f_X12_startsFromm (T.2.1 6) (T.2.1 35) (T.2.1 36) (T.1 37) (T.1 38) (T.1 39) (T.1 40) (T.1 41) (T.1 42) = some u3 ∧ f_X12_goesOn (nI w) (T.2.1 25) (T.2.1 27) (T.2.1 28) u3.2.2.1 = some u4 ∧ g_X12_round_31 FU (nI w) v2 (T.2.1 4) (T.2.1 5) (T.2.1 6) (T.2.1 25) (T.2.1 26) (T.2.1 27) (T.2.1 28) u3.1 u3.2.1 u4 u3.2.2.2.1 u3.2.2.2.2.1 u3.2.2.2.2.2.1 u3.2.2.2.2.2.2.1 u3.2.2.2.2.2.2.2 T.2.2 = some u' ∧ (if v2 = 0 then u.1 else if u.1 = 1 then (if v2 = 1 then u.2.1 else u.2.2.1) else -2) = u'.1 := by
  obtain ⟨n, P, hn, e1, e2, -, hw, hp0, hX, hMo⟩ := hRR
  subst e1
  obtain ⟨q1, q2, q3, q4, q5, q6⟩ := RV_abs vb
  have hG0 : GS n P (absN (T.2.1 5)) (st0 (absN (T.2.1 6)) 0) := GS_0 hp0 (by omega) q5 (Z6_abs _)
  obtain ⟨A, a1, a2, a3, -⟩ := run_len0 (K := absN (T.2.1 4)) (lim := 20000) hw hp0 (show 0 < 1009 by omega) q5 (Z6_abs (T.2.1 6))
  have eg : f_X12_goesOn (nI w) (T.2.1 25) (T.2.1 27) (T.2.1 28) 0 = some 0 := by
    have := m_goesF hw3 hn e2 hw hMo (i := 0) (Nat.zero_le _)
    rw [chf_stop hp0] at this
    exact this
  obtain ⟨u', t1, t2⟩ := m_round31 (y35 := cpI 0 (T.2.1 6) (T.2.1 35)) hw3 hn e2 hw hMo vb hG0 rfl a1 a2 a3 hv2 FU A 0 0 (cpI 0 (T.2.1 6) (T.2.1 36)) T.2.2 (by omega) (by unfold FU; omega) (R6_cpI q4) (fun _ => rfl) (fun j hj => absurd hj (by omega))
  have fin : ∀ u, f_X5_seek x3 x4 x5 c fi se nx ot (nI n) d1 d2 e3 e4 e5 e6 e7 e8 k1 k2 l3 l4 l5 l6 l7 l8 (T.2.1 4) (T.2.1 5) (T.2.1 6) rs = some u → (if v2 = 0 then u.1 else if u.1 = 1 then (if v2 = 1 then u.2.1 else u.2.2.1) else -2) = u'.1 → ∃ u u3 u4 u', f_X5_seek x3 x4 x5 c fi se nx ot (nI n) d1 d2 e3 e4 e5 e6 e7 e8 k1 k2 l3 l4 l5 l6 l7 l8 (T.2.1 4) (T.2.1 5) (T.2.1 6) rs = some u ∧ f_X12_startsFromm (T.2.1 6) (T.2.1 35) (T.2.1 36) (T.1 37) (T.1 38) (T.1 39) (T.1 40) (T.1 41) (T.1 42) = some u3 ∧ f_X12_goesOn (nI w) (T.2.1 25) (T.2.1 27) (T.2.1 28) u3.2.2.1 = some u4 ∧ g_X12_round_31 FU (nI w) v2 (T.2.1 4) (T.2.1 5) (T.2.1 6) (T.2.1 25) (T.2.1 26) (T.2.1 27) (T.2.1 28) u3.1 u3.2.1 u4 u3.2.2.2.1 u3.2.2.2.2.1 u3.2.2.2.2.2.1 u3.2.2.2.2.2.2.1 u3.2.2.2.2.2.2.2 T.2.2 = some u' ∧ (if v2 = 0 then u.1 else if u.1 = 1 then (if v2 = 1 then u.2.1 else u.2.2.1) else -2) = u'.1 :=
    fun u h1 h2 => ⟨u, _, 0, u', h1, m_startmF _ _ _ _ _ _ _ _ _, eg, t1, h2⟩
  rcases t2 with ⟨s1, s2⟩ | ⟨s1, s2, s3⟩ | ⟨s1, q, M, fst, s2, s3, s4, s5, s6, s7, s8, s9⟩
  · obtain ⟨u, g1, g2⟩ := x_seekE hn hw hp0 hX vb a1 a2 s1 x3 x4 x5 d1 d2 e3 e4 e5 e6 e7 e8 k1 k2 l3 l4 l5 l6 l7 l8
    refine fin u g1 ?_
    rw [s2, g2, if_neg (show ¬ (0 : Int32) = 1 by decide)]
  · obtain ⟨u, g1, g2⟩ := x_seekN hn hw hp0 hX vb s1 s2 x3 x4 x5 d1 d2 e3 e4 e5 e6 e7 e8 k1 k2 l3 l4 l5 l6 l7 l8
    refine fin u g1 ?_
    rw [s3, g2, if_neg (show ¬ (2 : Int32) = 1 by decide)]
  · obtain ⟨u, g1, g2, g3, g4⟩ := x_seekR hn hw hp0 hX vb s1 s2 s3 s4 s5 s7 s8 s6 x3 x4 x5 d1 d2 e3 e4 e5 e6 e7 e8 k1 k2 l3 l4 l5 l6 l7 l8
    refine fin u g1 ?_
    rw [s9, g2, g3, g4, if_pos (show (1 : Int32) = 1 from rfl)]
theorem ok_round : Ok_round Rel := by
  intro S T s1 s2 hR
  have hR0 := hR
  obtain ⟨ht, ⟨v1, v2, v3, vb⟩, ⟨r0, r1, r2⟩, hs, hp, hm, hb, hk⟩ := hR
  have hRel : ∀ u w, Rel (stX_round S u) (stM_round T w) := fun u w => ⟨ht, ⟨v1, v2, v3, vb⟩, ⟨r0, r1, r2⟩, hs, hp, hm, hb, hk⟩
  unfold f_X11_round g_X11_round_0 f_X12_round g_X12_round_0
  rw [x_isRecipe, m_isRecipe, Option.bind_some, Option.bind_some]
  by_cases h1 : (0 : Int32) ≤ s1 ∧ s1 ≤ 2
  · simp only [if_pos h1, if_neg (show ¬ (1 : Int32) = 0 by decide)]
    rw [w_in, m_in, Option.bind_some, Option.bind_some]
    by_cases h2 : (0 : Int32) ≤ s2 ∧ s2 ≤ 2
    · simp only [if_pos h2, if_neg (show ¬ (1 : Int32) = 0 by decide)]
      obtain ⟨w, hw, rfl⟩ := of_rng (x := s1) (n := 2) (by omega) h1.1 h1.2
      have hv : s2 = 0 ∨ s2 = 1 ∨ s2 = 2 := by
        obtain ⟨k, hk3, rfl⟩ := of_rng (x := s2) (n := 2) (by omega) h2.1 h2.2
        rcases (show k = 0 ∨ k = 1 ∨ k = 2 by omega) with rfl | rfl | rfl
        · exact Or.inl rfl
        · exact Or.inr (Or.inl rfl)
        · exact Or.inr (Or.inr rfl)
      rw [v1, v2, v3]
      rcases (show w = 0 ∨ w = 1 ∨ w = 2 by omega) with rfl | rfl | rfl
      · obtain ⟨u, u3, u4, u', a1, a2, a3, a4, a5⟩ := round_both (T := T) (w := 0) (by omega) r0 vb hv ((S 13).1 3) ((S 13).1 4) ((S 13).1 5) ((S 11).2 1) ((S 11).2 2) ((S 11).1 3) ((S 11).1 4) ((S 11).1 5) ((S 11).1 6) ((S 11).1 7) ((S 11).1 8) ((S 10).2 1) ((S 10).2 2) ((S 10).1 3) ((S 10).1 4) ((S 10).1 5) ((S 10).1 6) ((S 10).1 7) ((S 10).1 8)
        rw [if_pos (show nI 0 = 0 from rfl), a1, Option.bind_some, a2, Option.bind_some, a3, Option.bind_some, a4]
        by_cases z0 : s2 = 0
        · rw [if_pos z0] at a5
          simp only [if_pos z0]
          exact ⟨_, _, rfl, rfl, a5, hRel _ _⟩
        · rw [if_neg z0] at a5
          simp only [if_neg z0]
          by_cases z1 : u.1 = 1
          · rw [if_pos z1] at a5
            simp only [if_pos z1]
            by_cases z2 : s2 = 1
            · rw [if_pos z2] at a5
              simp only [if_pos z2]
              exact ⟨_, _, rfl, rfl, a5, hRel _ _⟩
            · rw [if_neg z2] at a5
              simp only [if_neg z2]
              exact ⟨_, _, rfl, rfl, a5, hRel _ _⟩
          · rw [if_neg z1] at a5
            simp only [if_neg z1]
            exact ⟨_, _, rfl, rfl, a5, hRel _ _⟩
      · obtain ⟨u, u3, u4, u', a1, a2, a3, a4, a5⟩ := round_both (T := T) (w := 1) (by omega) r1 vb hv ((S 13).1 3) ((S 13).1 4) ((S 13).1 5) ((S 11).2 1) ((S 11).2 2) ((S 11).1 3) ((S 11).1 4) ((S 11).1 5) ((S 11).1 6) ((S 11).1 7) ((S 11).1 8) ((S 10).2 1) ((S 10).2 2) ((S 10).1 3) ((S 10).1 4) ((S 10).1 5) ((S 10).1 6) ((S 10).1 7) ((S 10).1 8)
        rw [if_neg (show ¬ nI 1 = 0 by decide), if_pos (show nI 1 = 1 from rfl), a1, Option.bind_some, a2, Option.bind_some, a3, Option.bind_some, a4]
        by_cases z0 : s2 = 0
        · rw [if_pos z0] at a5
          simp only [if_pos z0]
          exact ⟨_, _, rfl, rfl, a5, hRel _ _⟩
        · rw [if_neg z0] at a5
          simp only [if_neg z0]
          by_cases z1 : u.1 = 1
          · rw [if_pos z1] at a5
            simp only [if_pos z1]
            by_cases z2 : s2 = 1
            · rw [if_pos z2] at a5
              simp only [if_pos z2]
              exact ⟨_, _, rfl, rfl, a5, hRel _ _⟩
            · rw [if_neg z2] at a5
              simp only [if_neg z2]
              exact ⟨_, _, rfl, rfl, a5, hRel _ _⟩
          · rw [if_neg z1] at a5
            simp only [if_neg z1]
            exact ⟨_, _, rfl, rfl, a5, hRel _ _⟩
      · obtain ⟨u, u3, u4, u', a1, a2, a3, a4, a5⟩ := round_both (T := T) (w := 2) (by omega) r2 vb hv ((S 13).1 3) ((S 13).1 4) ((S 13).1 5) ((S 11).2 1) ((S 11).2 2) ((S 11).1 3) ((S 11).1 4) ((S 11).1 5) ((S 11).1 6) ((S 11).1 7) ((S 11).1 8) ((S 10).2 1) ((S 10).2 2) ((S 10).1 3) ((S 10).1 4) ((S 10).1 5) ((S 10).1 6) ((S 10).1 7) ((S 10).1 8)
        rw [if_neg (show ¬ nI 2 = 0 by decide), if_neg (show ¬ nI 2 = 1 by decide), if_pos (show nI 2 = 2 from rfl), a1, Option.bind_some, a2, Option.bind_some, a3, Option.bind_some, a4]
        by_cases z0 : s2 = 0
        · rw [if_pos z0] at a5
          simp only [if_pos z0]
          exact ⟨_, _, rfl, rfl, a5, hRel _ _⟩
        · rw [if_neg z0] at a5
          simp only [if_neg z0]
          by_cases z1 : u.1 = 1
          · rw [if_pos z1] at a5
            simp only [if_pos z1]
            by_cases z2 : s2 = 1
            · rw [if_pos z2] at a5
              simp only [if_pos z2]
              exact ⟨_, _, rfl, rfl, a5, hRel _ _⟩
            · rw [if_neg z2] at a5
              simp only [if_neg z2]
              exact ⟨_, _, rfl, rfl, a5, hRel _ _⟩
          · rw [if_neg z1] at a5
            simp only [if_neg z1]
            exact ⟨_, _, rfl, rfl, a5, hRel _ _⟩
    · simp only [if_neg h2, if_true]
      exact ⟨_, _, rfl, rfl, rfl, hRel _ _⟩
  · simp only [if_neg h1, if_true]
    exact ⟨_, _, rfl, rfl, rfl, hRel _ _⟩
