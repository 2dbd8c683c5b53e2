theorem alike_bothx {T : MS} {w w2 : Nat} (hw3 : w < 3) (hw32 : w2 < 3) {c fi se nx ot c2 fi2 se2 nx2 ot2 : Nat → Int32} {sz ac sz2 ac2 : Int32} (hRR : RR w c fi se nx ot sz ac (T.2.1 25) (T.2.1 26) (T.2.1 27) (T.2.1 28) (T.2.1 29)) (hRR2 : RR w2 c2 fi2 se2 nx2 ot2 sz2 ac2 (T.2.1 25) (T.2.1 26) (T.2.1 27) (T.2.1 28) (T.2.1 29)) {rs : Int32} (vb : RV (T.2.1 4) (T.2.1 5) (T.2.1 6) rs) {k bnd : Nat} (hk : k < 64) (hbits : bits8 (nI k) < 4) (hbnd : bnd ≤ 20) {v : Int32} (hv : v = -1 ∨ ∃ k, k < 6 ∧ v = nI k)
    (d1 d2 : Nat → Int32) (e3 e4 e5 e6 e7 e8 : Int32) (mk : Nat → Int32) (x10 x11 x12 x13 x14 : Int32) (k1 k2 : Nat → Int32) (l3 l4 l5 l6 l7 l8 : Int32) (mk2 : Nat → Int32) (y10 y11 y12 y13 y14 : Int32) (s3 s4 : Nat → Int32) (s5 : Int32) :
    ∃ r : Int32, (∃ u3 u, f_X8_lay (nI k) (nI bnd) s3 s4 s5 (T.2.1 5) (T.2.1 6) = some u3 ∧ f_X8_unlikex v u3.1 u3.2.1 u3.2.2 c fi se nx ot sz c2 fi2 se2 nx2 ot2 sz2 d1 d2 e3 e4 e5 e6 e7 e8 mk x10 x11 x12 x13 x14 k1 k2 l3 l4 l5 l6 l7 l8 mk2 y10 y11 y12 y13 y14 (T.2.1 4) (T.2.1 5) rs = some u ∧ u.1 = r) ∧
      (∃ u4 u, f_X12_startsBeginnings (nI k) (T.2.1 6) (T.2.1 43) (T.1 46) = some u4 ∧ g_X12_alike_45 FU (nI w) (nI w2) (nI k) (nI bnd) v 1 (T.2.1 4) (T.2.1 5) (T.2.1 6) (T.2.1 25) (T.2.1 26) (T.2.1 27) (T.2.1 28) (T.2.1 35) (T.2.1 36) (T.1 37) (T.1 38) (T.1 39) (T.1 40) (T.1 41) (T.1 42) u4.1 (T.2.1 44) (T.2.1 45) u4.2 = some u ∧ u.1 = r) := by
  obtain ⟨n1, P1, hn1, e1, e2, -, hwf1, hp01, hX1, hMo1⟩ := hRR
  obtain ⟨n2, P2, hn2, e3', e4', -, hwf2, hp02, hX2, hMo2⟩ := hRR2
  subst e1 e3'
  obtain ⟨k1', k2', k3, k4, k5, k6⟩ := RV_abs vb
  have hbit : bitB (nI k) (chB k) := chB_bit k hk
  have hple := prB_le (bnd := bnd) (B := absN (T.2.1 5)) hk hbits hbnd
  refine ⟨ansB v (walkB (fun m => othB (RUN n1 P1 (T.2.1 4) (T.2.1 5) 2000 m 0) (RUN n2 P2 (T.2.1 4) (T.2.1 5) 2000 m 0)) (waysB (chB k) bnd (absN (T.2.1 5))) (prB (waysB (chB k) bnd (absN (T.2.1 5))) 6) (begB (chB k) (absN (T.2.1 6))) 0 (fun _ => 0)), ?_, ?_⟩
  · obtain ⟨y3, y4, g1, g2, g3⟩ := x_lay (C := chB k) (bnd := bnd) hbit k3 (fun j hj => (k5 j hj).2) hbnd k4 FU 0 s3 s4 (by omega) (by unfold FU; omega) (fun j hj => absurd hj (by omega))
    obtain ⟨u, q1, q2⟩ := x_unlikex (C := chB k) (bnd := bnd) (B := absN (T.2.1 5)) (M := absN (T.2.1 6)) (p := fun m => othB (RUN n1 P1 (T.2.1 4) (T.2.1 5) 2000 m 0) (RUN n2 P2 (T.2.1 4) (T.2.1 5) 2000 m 0)) (c := c) (fi := fi) (se := se) (nx := nx) (ot := ot) (c2 := c2) (fi2 := fi2) (se2 := se2) (nx2 := nx2) (ot2 := ot2) (kf := T.2.1 4) (b := T.2.1 5) (sz := nI n1) (sz2 := nI n2) (rs := rs) k5 hbnd (v3 := v) (N := prB (waysB (chB k) bnd (absN (T.2.1 5))) 6) (by omega) g3
      (fun m hI y0 d1 d2 e3 e4 e5 e6 e7 e8 mk x10 x11 x12 x13 x14 k1 k2 l3 l4 l5 l6 l7 l8 mk2 y10 y11 y12 y13 y14 hy => by
        obtain ⟨f', mk', p', a1, a2, a3, a4, a5, t1, t2⟩ := x_follow hn1 hwf1 hp01 hX1 vb (InvB_MB hI k5) hI.2 hy d1 d2 e3 e4 e5 e6 e7 e8 mk x10 x11 x12 x13 x14
        obtain ⟨f'', mk'', p'', b1, b2, b3, b4, b5, t3, t4⟩ := x_follow hn2 hwf2 hp02 hX2 vb (InvB_MB hI k5) hI.2 hy k1 k2 l3 l4 l5 l6 l7 l8 mk2 y10 y11 y12 y13 y14
        exact ⟨_, _, t1, t3, othB_x t2 t4⟩)
      FU (prB (waysB (chB k) bnd (absN (T.2.1 5))) 6) 0 (begB (chB k) (absN (T.2.1 6))) 0 (fun _ => 0) y3 d1 d2 e3 e4 e5 e6 e7 e8 mk x10 x11 x12 x13 x14 k1 k2 l3 l4 l5 l6 l7 l8 mk2 y10 y11 y12 y13 y14 (by omega) (by unfold FU; omega) InvB_0 g2 (hv.imp (fun h => h) (fun h => ⟨rfl, h⟩))
    exact ⟨_, u, g1, q1, q2⟩
  · obtain ⟨y', g1, g2⟩ := m_startsB (C := chB k) hbit k4 0 FU 0 (T.2.1 43) (by omega) (by unfold FU; omega) (fun j hj => absurd hj (by omega))
    have hpos := prB_pos k bnd (absN (T.2.1 5))
    obtain ⟨u, q1, q2⟩ := m_alike (C := chB k) (bnd := bnd) (B := absN (T.2.1 5)) (M := absN (T.2.1 6)) (p := fun m => othB (RUN n1 P1 (T.2.1 4) (T.2.1 5) 2000 m 0) (RUN n2 P2 (T.2.1 4) (T.2.1 5) 2000 m 0)) (kf := T.2.1 4) (b := T.2.1 5) k5 hbnd hv (msk := nI k) (wv := nI w) (wv2 := nI w2) (ms := T.2.1 6) (op := T.2.1 25) (a := T.2.1 26) (bb := T.2.1 27) (lo := T.2.1 28) hbit k3
      (fun m hI y d1 d2 e3 e4 e5 e6 e7 e8 y45 hy => m_endO hw3 hw32 hn1 hn2 e2 e4' hwf1 hwf2 hp01 hp02 hMo1 hMo2 vb (InvB_MB hI k5) hy d1 d2 e3 e4 e5 e6 e7 e8 y45)
      FU (prB (waysB (chB k) bnd (absN (T.2.1 5))) 6) (begB (chB k) (absN (T.2.1 6))) 0 (fun _ => 0) (T.2.1 44) y' (T.2.1 35) (T.2.1 36) (T.1 37) (T.1 38) (T.1 39) (T.1 40) (T.1 41) (T.1 42) (T.2.1 45) (by unfold FU; omega) (by omega) InvB_0 g2 (fun h => absurd h (by omega)) (fun _ => by rw [rkB_0]; omega)
    rw [if_neg (by omega)] at q1
    exact ⟨_, u, g1, q1, q2⟩
theorem alike_boths {T : MS} {w : Nat} (hw3 : w < 3) {c fi se nx ot : Nat → Int32} {sz ac : Int32} (hRR : RR w c fi se nx ot sz ac (T.2.1 25) (T.2.1 26) (T.2.1 27) (T.2.1 28) (T.2.1 29)) {rs : Int32} (vb : RV (T.2.1 4) (T.2.1 5) (T.2.1 6) rs) {k bnd : Nat} (hk : k < 64) (hbits : bits8 (nI k) < 4) (hbnd : bnd ≤ 20) {v : Int32} (hv : v = -1 ∨ ∃ k, k < 6 ∧ v = nI k)
    (d1 d2 : Nat → Int32) (e3 e4 e5 e6 e7 e8 : Int32) (mk : Nat → Int32) (x10 x11 x12 x13 x14 : Int32) (k1 k2 : Nat → Int32) (l3 l4 l5 l6 l7 l8 : Int32) (mk2 : Nat → Int32) (y10 y11 y12 y13 y14 : Int32) (s3 s4 : Nat → Int32) (s5 : Int32) :
    ∃ r : Int32, (∃ u3 u, f_X8_lay (nI k) (nI bnd) s3 s4 s5 (T.2.1 5) (T.2.1 6) = some u3 ∧ f_X8_unlikes v u3.1 u3.2.1 u3.2.2 c fi se nx ot sz d1 d2 e3 e4 e5 e6 e7 e8 mk x10 x11 x12 x13 x14 k1 k2 l3 l4 l5 l6 l7 l8 mk2 y10 y11 y12 y13 y14 (T.2.1 4) (T.2.1 5) rs = some u ∧ u.1 = r) ∧
      (∃ u4 u, f_X12_startsBeginnings (nI k) (T.2.1 6) (T.2.1 43) (T.1 46) = some u4 ∧ g_X12_alike_45 FU (nI w) (nI w) (nI k) (nI bnd) v 1 (T.2.1 4) (T.2.1 5) (T.2.1 6) (T.2.1 25) (T.2.1 26) (T.2.1 27) (T.2.1 28) (T.2.1 35) (T.2.1 36) (T.1 37) (T.1 38) (T.1 39) (T.1 40) (T.1 41) (T.1 42) u4.1 (T.2.1 44) (T.2.1 45) u4.2 = some u ∧ u.1 = r) := by
  obtain ⟨n1, P1, hn1, e1, e2, -, hwf1, hp01, hX1, hMo1⟩ := hRR
  subst e1
  obtain ⟨k1', k2', k3, k4, k5, k6⟩ := RV_abs vb
  have hbit : bitB (nI k) (chB k) := chB_bit k hk
  have hple := prB_le (bnd := bnd) (B := absN (T.2.1 5)) hk hbits hbnd
  refine ⟨ansB v (walkB (fun m => othB (RUN n1 P1 (T.2.1 4) (T.2.1 5) 2000 m 0) (RUN n1 P1 (T.2.1 4) (T.2.1 5) 2000 m 0)) (waysB (chB k) bnd (absN (T.2.1 5))) (prB (waysB (chB k) bnd (absN (T.2.1 5))) 6) (begB (chB k) (absN (T.2.1 6))) 0 (fun _ => 0)), ?_, ?_⟩
  · obtain ⟨y3, y4, g1, g2, g3⟩ := x_lay (C := chB k) (bnd := bnd) hbit k3 (fun j hj => (k5 j hj).2) hbnd k4 FU 0 s3 s4 (by omega) (by unfold FU; omega) (fun j hj => absurd hj (by omega))
    obtain ⟨u, q1, q2⟩ := x_unlikes (C := chB k) (bnd := bnd) (B := absN (T.2.1 5)) (M := absN (T.2.1 6)) (p := fun m => othB (RUN n1 P1 (T.2.1 4) (T.2.1 5) 2000 m 0) (RUN n1 P1 (T.2.1 4) (T.2.1 5) 2000 m 0)) (c := c) (fi := fi) (se := se) (nx := nx) (ot := ot) (kf := T.2.1 4) (b := T.2.1 5) (sz := nI n1) (rs := rs) k5 hbnd (v3 := v) (N := prB (waysB (chB k) bnd (absN (T.2.1 5))) 6) (by omega) g3
      (fun m hI y0 d1 d2 e3 e4 e5 e6 e7 e8 mk x10 x11 x12 x13 x14 k1 k2 l3 l4 l5 l6 l7 l8 mk2 y10 y11 y12 y13 y14 hy => by
        obtain ⟨f', mk', p', a1, a2, a3, a4, a5, t1, t2⟩ := x_follow hn1 hwf1 hp01 hX1 vb (InvB_MB hI k5) hI.2 hy d1 d2 e3 e4 e5 e6 e7 e8 mk x10 x11 x12 x13 x14
        obtain ⟨f'', mk'', p'', b1, b2, b3, b4, b5, t3, t4⟩ := x_follow hn1 hwf1 hp01 hX1 vb (InvB_MB hI k5) hI.2 hy k1 k2 l3 l4 l5 l6 l7 l8 mk2 y10 y11 y12 y13 y14
        exact ⟨_, _, t1, t3, othB_x t2 t4⟩)
      FU (prB (waysB (chB k) bnd (absN (T.2.1 5))) 6) 0 (begB (chB k) (absN (T.2.1 6))) 0 (fun _ => 0) y3 d1 d2 e3 e4 e5 e6 e7 e8 mk x10 x11 x12 x13 x14 k1 k2 l3 l4 l5 l6 l7 l8 mk2 y10 y11 y12 y13 y14 (by omega) (by unfold FU; omega) InvB_0 g2 (hv.imp (fun h => h) (fun h => ⟨rfl, h⟩))
    exact ⟨_, u, g1, q1, q2⟩
  · obtain ⟨y', g1, g2⟩ := m_startsB (C := chB k) hbit k4 0 FU 0 (T.2.1 43) (by omega) (by unfold FU; omega) (fun j hj => absurd hj (by omega))
    have hpos := prB_pos k bnd (absN (T.2.1 5))
    obtain ⟨u, q1, q2⟩ := m_alike (C := chB k) (bnd := bnd) (B := absN (T.2.1 5)) (M := absN (T.2.1 6)) (p := fun m => othB (RUN n1 P1 (T.2.1 4) (T.2.1 5) 2000 m 0) (RUN n1 P1 (T.2.1 4) (T.2.1 5) 2000 m 0)) (kf := T.2.1 4) (b := T.2.1 5) k5 hbnd hv (msk := nI k) (wv := nI w) (wv2 := nI w) (ms := T.2.1 6) (op := T.2.1 25) (a := T.2.1 26) (bb := T.2.1 27) (lo := T.2.1 28) hbit k3
      (fun m hI y d1 d2 e3 e4 e5 e6 e7 e8 y45 hy => m_endO hw3 hw3 hn1 hn1 e2 e2 hwf1 hwf1 hp01 hp01 hMo1 hMo1 vb (InvB_MB hI k5) hy d1 d2 e3 e4 e5 e6 e7 e8 y45)
      FU (prB (waysB (chB k) bnd (absN (T.2.1 5))) 6) (begB (chB k) (absN (T.2.1 6))) 0 (fun _ => 0) (T.2.1 44) y' (T.2.1 35) (T.2.1 36) (T.1 37) (T.1 38) (T.1 39) (T.1 40) (T.1 41) (T.1 42) (T.2.1 45) (by unfold FU; omega) (by omega) InvB_0 g2 (fun h => absurd h (by omega)) (fun _ => by rw [rkB_0]; omega)
    rw [if_neg (by omega)] at q1
    exact ⟨_, u, g1, q1, q2⟩
theorem ok_alike : Ok_alike Rel := by
  intro S T s1 s2 s3 s4 s5 hR
  have hR0 := hR
  obtain ⟨ht, ⟨v1, v2, v3, vb⟩, ⟨r0, r1, r2⟩, hs, hp, hm, hb, hk⟩ := hR
  have hRel : ∀ u w, Rel (stX_alike S u) (stM_alike T w) := fun u w => ⟨ht, ⟨v1, v2, v3, vb⟩, ⟨r0, r1, r2⟩, hs, hp, hm, hb, hk⟩
  unfold f_X11_alike g_X11_alike_0 f_X12_alike g_X12_alike_0
  rw [x_isRecipe, m_isRecipe, Option.bind_some, Option.bind_some]
  by_cases h1 : (0 : Int32) ≤ s1 ∧ s1 ≤ 2
  · simp only [if_pos h1, if_neg (show ¬ (1 : Int32) = 0 by decide)]
    rw [x_isRecipe, m_isRecipe, Option.bind_some, Option.bind_some]
    by_cases h4 : (0 : Int32) ≤ s2 ∧ s2 ≤ 2
    · simp only [if_pos h4, if_neg (show ¬ (1 : Int32) = 0 by decide)]
      by_cases h2 : SV s3 s4 s5
      · rw [(x_survey s3 s4 s5).1 h2, Option.bind_some, m_areVats, if_pos (show ((1 : Int32) ≤ s3 ∧ s3 ≤ 63) ∧ bits8 s3 < 4 ∧ ((1 : Int32) ≤ s4 ∧ s4 ≤ 20) from ⟨h2.1, h2.2.1, h2.2.2.1⟩), Option.bind_some, m_in, if_pos h2.2.2.2, Option.bind_some]
        simp only [if_neg (show ¬ (1 : Int32) = 0 by decide)]
        obtain ⟨w, hw, rfl⟩ := of_rng (x := s1) (n := 2) (by omega) h1.1 h1.2
        obtain ⟨w2, hw2, rfl⟩ := of_rng (x := s2) (n := 2) (by omega) h4.1 h4.2
        obtain ⟨k, hk2, rfl⟩ := of_rng (x := s3) (n := 63) (by omega) (le_trans32 (by decide) h2.1.1) h2.1.2
        obtain ⟨bnd, hbnd, rfl⟩ := of_rng (x := s4) (n := 20) (by omega) (le_trans32 (by decide) h2.2.2.1.1) h2.2.2.1.2
        have hv := what_of h2.2.2.2
        rw [v1, v2, v3]
        rcases (show w = 0 ∨ w = 1 ∨ w = 2 by omega) with rfl | rfl | rfl
        · rcases (show w2 = 0 ∨ w2 = 1 ∨ w2 = 2 by omega) with rfl | rfl | rfl
          · obtain ⟨r, ⟨u3, u, a1, a2, a3⟩, u4, u', a4, a5, a6⟩ := alike_boths (T := T) (w := 0) (by omega) r0 vb (show k < 64 by omega) h2.2.1 hbnd hv ((S 10).2 1) ((S 10).2 2) ((S 10).1 3) ((S 10).1 4) ((S 10).1 5) ((S 10).1 6) ((S 10).1 7) ((S 10).1 8) ((S 10).2 9) ((S 10).1 10) ((S 10).1 11) ((S 10).1 12) ((S 10).1 13) ((S 10).1 14) ((S 11).2 1) ((S 11).2 2) ((S 11).1 3) ((S 11).1 4) ((S 11).1 5) ((S 11).1 6) ((S 11).1 7) ((S 11).1 8) ((S 11).2 9) ((S 11).1 10) ((S 11).1 11) ((S 11).1 12) ((S 11).1 13) ((S 11).1 14) ((S 12).2 3) ((S 12).2 4) ((S 12).1 5)
            rw [a1, Option.bind_some, if_pos (show nI 0 = 0 from rfl), if_pos (show nI 0 = 0 from rfl), a2, Option.bind_some, a4, Option.bind_some, a5]
            exact ⟨_, _, rfl, rfl, a3.trans a6.symm, hRel _ _⟩
          · obtain ⟨r, ⟨u3, u, a1, a2, a3⟩, u4, u', a4, a5, a6⟩ := alike_bothx (T := T) (w := 0) (w2 := 1) (by omega) (by omega) r0 r1 vb (show k < 64 by omega) h2.2.1 hbnd hv ((S 10).2 1) ((S 10).2 2) ((S 10).1 3) ((S 10).1 4) ((S 10).1 5) ((S 10).1 6) ((S 10).1 7) ((S 10).1 8) ((S 10).2 9) ((S 10).1 10) ((S 10).1 11) ((S 10).1 12) ((S 10).1 13) ((S 10).1 14) ((S 11).2 1) ((S 11).2 2) ((S 11).1 3) ((S 11).1 4) ((S 11).1 5) ((S 11).1 6) ((S 11).1 7) ((S 11).1 8) ((S 11).2 9) ((S 11).1 10) ((S 11).1 11) ((S 11).1 12) ((S 11).1 13) ((S 11).1 14) ((S 12).2 3) ((S 12).2 4) ((S 12).1 5)
            rw [a1, Option.bind_some, if_pos (show nI 0 = 0 from rfl), if_neg (show ¬ nI 1 = 0 by decide), if_pos (show nI 1 = 1 from rfl), a2, Option.bind_some, a4, Option.bind_some, a5]
            exact ⟨_, _, rfl, rfl, a3.trans a6.symm, hRel _ _⟩
          · obtain ⟨r, ⟨u3, u, a1, a2, a3⟩, u4, u', a4, a5, a6⟩ := alike_bothx (T := T) (w := 0) (w2 := 2) (by omega) (by omega) r0 r2 vb (show k < 64 by omega) h2.2.1 hbnd hv ((S 10).2 1) ((S 10).2 2) ((S 10).1 3) ((S 10).1 4) ((S 10).1 5) ((S 10).1 6) ((S 10).1 7) ((S 10).1 8) ((S 10).2 9) ((S 10).1 10) ((S 10).1 11) ((S 10).1 12) ((S 10).1 13) ((S 10).1 14) ((S 11).2 1) ((S 11).2 2) ((S 11).1 3) ((S 11).1 4) ((S 11).1 5) ((S 11).1 6) ((S 11).1 7) ((S 11).1 8) ((S 11).2 9) ((S 11).1 10) ((S 11).1 11) ((S 11).1 12) ((S 11).1 13) ((S 11).1 14) ((S 12).2 3) ((S 12).2 4) ((S 12).1 5)
            rw [a1, Option.bind_some, if_pos (show nI 0 = 0 from rfl), if_neg (show ¬ nI 2 = 0 by decide), if_neg (show ¬ nI 2 = 1 by decide), if_pos (show nI 2 = 2 from rfl), a2, Option.bind_some, a4, Option.bind_some, a5]
            exact ⟨_, _, rfl, rfl, a3.trans a6.symm, hRel _ _⟩
        · rcases (show w2 = 0 ∨ w2 = 1 ∨ w2 = 2 by omega) with rfl | rfl | rfl
          · obtain ⟨r, ⟨u3, u, a1, a2, a3⟩, u4, u', a4, a5, a6⟩ := alike_bothx (T := T) (w := 1) (w2 := 0) (by omega) (by omega) r1 r0 vb (show k < 64 by omega) h2.2.1 hbnd hv ((S 10).2 1) ((S 10).2 2) ((S 10).1 3) ((S 10).1 4) ((S 10).1 5) ((S 10).1 6) ((S 10).1 7) ((S 10).1 8) ((S 10).2 9) ((S 10).1 10) ((S 10).1 11) ((S 10).1 12) ((S 10).1 13) ((S 10).1 14) ((S 11).2 1) ((S 11).2 2) ((S 11).1 3) ((S 11).1 4) ((S 11).1 5) ((S 11).1 6) ((S 11).1 7) ((S 11).1 8) ((S 11).2 9) ((S 11).1 10) ((S 11).1 11) ((S 11).1 12) ((S 11).1 13) ((S 11).1 14) ((S 12).2 3) ((S 12).2 4) ((S 12).1 5)
            rw [a1, Option.bind_some, if_neg (show ¬ nI 1 = 0 by decide), if_pos (show nI 1 = 1 from rfl), if_pos (show nI 0 = 0 from rfl), a2, Option.bind_some, a4, Option.bind_some, a5]
            exact ⟨_, _, rfl, rfl, a3.trans a6.symm, hRel _ _⟩
          · obtain ⟨r, ⟨u3, u, a1, a2, a3⟩, u4, u', a4, a5, a6⟩ := alike_boths (T := T) (w := 1) (by omega) r1 vb (show k < 64 by omega) h2.2.1 hbnd hv ((S 10).2 1) ((S 10).2 2) ((S 10).1 3) ((S 10).1 4) ((S 10).1 5) ((S 10).1 6) ((S 10).1 7) ((S 10).1 8) ((S 10).2 9) ((S 10).1 10) ((S 10).1 11) ((S 10).1 12) ((S 10).1 13) ((S 10).1 14) ((S 11).2 1) ((S 11).2 2) ((S 11).1 3) ((S 11).1 4) ((S 11).1 5) ((S 11).1 6) ((S 11).1 7) ((S 11).1 8) ((S 11).2 9) ((S 11).1 10) ((S 11).1 11) ((S 11).1 12) ((S 11).1 13) ((S 11).1 14) ((S 12).2 3) ((S 12).2 4) ((S 12).1 5)
            rw [a1, Option.bind_some, if_neg (show ¬ nI 1 = 0 by decide), if_pos (show nI 1 = 1 from rfl), if_neg (show ¬ nI 1 = 0 by decide), if_pos (show nI 1 = 1 from rfl), a2, Option.bind_some, a4, Option.bind_some, a5]
            exact ⟨_, _, rfl, rfl, a3.trans a6.symm, hRel _ _⟩
          · obtain ⟨r, ⟨u3, u, a1, a2, a3⟩, u4, u', a4, a5, a6⟩ := alike_bothx (T := T) (w := 1) (w2 := 2) (by omega) (by omega) r1 r2 vb (show k < 64 by omega) h2.2.1 hbnd hv ((S 10).2 1) ((S 10).2 2) ((S 10).1 3) ((S 10).1 4) ((S 10).1 5) ((S 10).1 6) ((S 10).1 7) ((S 10).1 8) ((S 10).2 9) ((S 10).1 10) ((S 10).1 11) ((S 10).1 12) ((S 10).1 13) ((S 10).1 14) ((S 11).2 1) ((S 11).2 2) ((S 11).1 3) ((S 11).1 4) ((S 11).1 5) ((S 11).1 6) ((S 11).1 7) ((S 11).1 8) ((S 11).2 9) ((S 11).1 10) ((S 11).1 11) ((S 11).1 12) ((S 11).1 13) ((S 11).1 14) ((S 12).2 3) ((S 12).2 4) ((S 12).1 5)
            rw [a1, Option.bind_some, if_neg (show ¬ nI 1 = 0 by decide), if_pos (show nI 1 = 1 from rfl), if_neg (show ¬ nI 2 = 0 by decide), if_neg (show ¬ nI 2 = 1 by decide), if_pos (show nI 2 = 2 from rfl), a2, Option.bind_some, a4, Option.bind_some, a5]
            exact ⟨_, _, rfl, rfl, a3.trans a6.symm, hRel _ _⟩
        · rcases (show w2 = 0 ∨ w2 = 1 ∨ w2 = 2 by omega) with rfl | rfl | rfl
          · obtain ⟨r, ⟨u3, u, a1, a2, a3⟩, u4, u', a4, a5, a6⟩ := alike_bothx (T := T) (w := 2) (w2 := 0) (by omega) (by omega) r2 r0 vb (show k < 64 by omega) h2.2.1 hbnd hv ((S 10).2 1) ((S 10).2 2) ((S 10).1 3) ((S 10).1 4) ((S 10).1 5) ((S 10).1 6) ((S 10).1 7) ((S 10).1 8) ((S 10).2 9) ((S 10).1 10) ((S 10).1 11) ((S 10).1 12) ((S 10).1 13) ((S 10).1 14) ((S 11).2 1) ((S 11).2 2) ((S 11).1 3) ((S 11).1 4) ((S 11).1 5) ((S 11).1 6) ((S 11).1 7) ((S 11).1 8) ((S 11).2 9) ((S 11).1 10) ((S 11).1 11) ((S 11).1 12) ((S 11).1 13) ((S 11).1 14) ((S 12).2 3) ((S 12).2 4) ((S 12).1 5)
            rw [a1, Option.bind_some, if_neg (show ¬ nI 2 = 0 by decide), if_neg (show ¬ nI 2 = 1 by decide), if_pos (show nI 2 = 2 from rfl), if_pos (show nI 0 = 0 from rfl), a2, Option.bind_some, a4, Option.bind_some, a5]
            exact ⟨_, _, rfl, rfl, a3.trans a6.symm, hRel _ _⟩
          · obtain ⟨r, ⟨u3, u, a1, a2, a3⟩, u4, u', a4, a5, a6⟩ := alike_bothx (T := T) (w := 2) (w2 := 1) (by omega) (by omega) r2 r1 vb (show k < 64 by omega) h2.2.1 hbnd hv ((S 10).2 1) ((S 10).2 2) ((S 10).1 3) ((S 10).1 4) ((S 10).1 5) ((S 10).1 6) ((S 10).1 7) ((S 10).1 8) ((S 10).2 9) ((S 10).1 10) ((S 10).1 11) ((S 10).1 12) ((S 10).1 13) ((S 10).1 14) ((S 11).2 1) ((S 11).2 2) ((S 11).1 3) ((S 11).1 4) ((S 11).1 5) ((S 11).1 6) ((S 11).1 7) ((S 11).1 8) ((S 11).2 9) ((S 11).1 10) ((S 11).1 11) ((S 11).1 12) ((S 11).1 13) ((S 11).1 14) ((S 12).2 3) ((S 12).2 4) ((S 12).1 5)
            rw [a1, Option.bind_some, if_neg (show ¬ nI 2 = 0 by decide), if_neg (show ¬ nI 2 = 1 by decide), if_pos (show nI 2 = 2 from rfl), if_neg (show ¬ nI 1 = 0 by decide), if_pos (show nI 1 = 1 from rfl), a2, Option.bind_some, a4, Option.bind_some, a5]
            exact ⟨_, _, rfl, rfl, a3.trans a6.symm, hRel _ _⟩
          · obtain ⟨r, ⟨u3, u, a1, a2, a3⟩, u4, u', a4, a5, a6⟩ := alike_boths (T := T) (w := 2) (by omega) r2 vb (show k < 64 by omega) h2.2.1 hbnd hv ((S 10).2 1) ((S 10).2 2) ((S 10).1 3) ((S 10).1 4) ((S 10).1 5) ((S 10).1 6) ((S 10).1 7) ((S 10).1 8) ((S 10).2 9) ((S 10).1 10) ((S 10).1 11) ((S 10).1 12) ((S 10).1 13) ((S 10).1 14) ((S 11).2 1) ((S 11).2 2) ((S 11).1 3) ((S 11).1 4) ((S 11).1 5) ((S 11).1 6) ((S 11).1 7) ((S 11).1 8) ((S 11).2 9) ((S 11).1 10) ((S 11).1 11) ((S 11).1 12) ((S 11).1 13) ((S 11).1 14) ((S 12).2 3) ((S 12).2 4) ((S 12).1 5)
            rw [a1, Option.bind_some, if_neg (show ¬ nI 2 = 0 by decide), if_neg (show ¬ nI 2 = 1 by decide), if_pos (show nI 2 = 2 from rfl), if_neg (show ¬ nI 2 = 0 by decide), if_neg (show ¬ nI 2 = 1 by decide), if_pos (show nI 2 = 2 from rfl), a2, Option.bind_some, a4, Option.bind_some, a5]
            exact ⟨_, _, rfl, rfl, a3.trans a6.symm, hRel _ _⟩
      · rw [(x_survey s3 s4 s5).2 h2, Option.bind_some, if_pos rfl, m_areVats, Option.bind_some]
        by_cases h3 : ((1 : Int32) ≤ s3 ∧ s3 ≤ 63) ∧ bits8 s3 < 4 ∧ ((1 : Int32) ≤ s4 ∧ s4 ≤ 20)
        · rw [if_pos h3, if_neg (by decide), m_in, if_neg (fun h => h2 ⟨h3.1, h3.2.1, h3.2.2, h⟩), Option.bind_some, if_pos rfl]
          exact ⟨_, _, rfl, rfl, rfl, hRel _ _⟩
        · rw [if_neg h3, if_pos rfl]
          exact ⟨_, _, rfl, rfl, rfl, hRel _ _⟩
    · simp only [if_neg h4, if_true]
      exact ⟨_, _, rfl, rfl, rfl, hRel _ _⟩
  · simp only [if_neg h1, if_true]
    exact ⟨_, _, rfl, rfl, rfl, hRel _ _⟩
