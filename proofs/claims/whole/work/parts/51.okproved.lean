theorem R6_ext {f : Nat → Int32} {m : Nat → Nat} (h : R6 f m) : ∀ j, j < 6 → f j = (fun j => nI (m j)) j := h
/-- proved, both sides, for one recipe -/
theorem proved_both {S : XS} {T : MS} (hs : RS ((S 7).2 0) ((S 7).2 1) ((S 7).1 2) (T.2.1 19) (T.1 16)) {w : Nat} (hw3 : w < 3) {c fi se nx ot : Nat → Int32} {sz ac : Int32} (hRR : RR w c fi se nx ot sz ac (T.2.1 25) (T.2.1 26) (T.2.1 27) (T.2.1 28) (T.2.1 29)) {rs : Int32} (vb : RV (T.2.1 4) (T.2.1 5) (T.2.1 6) rs) {k bnd : Nat} (hk : k < 64) (hbits : bits8 (nI k) < 4) (hbnd : bnd ≤ 20) {v : Int32} (hv : v = -1 ∨ ∃ k, k < 6 ∧ v = nI k)
    (d1 d2 : Nat → Int32) (e3 e4 e5 e6 e7 e8 : Int32) (mk : Nat → Int32) (x10 x11 x12 x13 x14 : Int32) (h3 : Nat → Int32) (h4 h5 h6 : Int32) (s3 s4 : Nat → Int32) (s5 : Int32) :
    ∃ r : Int32, (∃ u3 u, f_X8_lay (nI k) (nI bnd) s3 s4 s5 (T.2.1 5) (T.2.1 6) = some u3 ∧ f_X8_unproved v u3.1 u3.2.1 u3.2.2 c fi se nx ot sz ((S 7).2 0) ((S 7).2 1) ((S 7).1 2) h3 h4 h5 h6 d1 d2 e3 e4 e5 e6 e7 e8 mk x10 x11 x12 x13 x14 (T.2.1 4) (T.2.1 5) rs = some u ∧ u.1 = r) ∧
      (∃ u4 u, f_X12_startsBeginnings (nI k) (T.2.1 6) (T.2.1 43) (T.1 46) = some u4 ∧ g_X12_proved_37 FU (nI w) (nI k) (nI bnd) v 1 (T.2.1 4) (T.2.1 5) (T.2.1 6) (T.1 16) (T.2.1 19) (T.2.1 20) (T.2.1 21) (T.2.1 25) (T.2.1 26) (T.2.1 27) (T.2.1 28) (T.2.1 35) (T.2.1 36) (T.1 37) (T.1 38) (T.1 39) (T.1 40) (T.1 41) (T.1 42) u4.1 (T.2.1 44) u4.2 = some u ∧ u.1 = r) := by
  obtain ⟨n, P, hn, e1, e2, -, hw, hp0, hX, hMo⟩ := hRR
  subst e1
  obtain ⟨k1, k2, k3, k4, k5, k6⟩ := RV_abs vb
  have hbit : bitB (nI k) (chB k) := chB_bit k hk
  have hex : ∀ m : Nat → Nat, ∃ r : Bool, (∀ (bx nx hh : Nat → Int32) (x4 x5 x6 : Int32), (∀ j, j < 6 → bx j = nI (m j)) → (∀ j, j < 6 → nx j = nI ((RUN n P (T.2.1 4) (T.2.1 5) 2000 m 0).1.1 j)) → ∃ (hx' : Nat → Int32) (y4 y5 y6 : Int32), f_X6_holds ((S 7).2 0) ((S 7).2 1) ((S 7).1 2) hh x4 x5 x6 bx nx (nI (RUN n P (T.2.1 4) (T.2.1 5) 2000 m 0).1.2.1) (nI (RUN n P (T.2.1 4) (T.2.1 5) 2000 m 0).1.2.2.1) (nI (RUN n P (T.2.1 4) (T.2.1 5) 2000 m 0).2.1) (nI (RUN n P (T.2.1 4) (T.2.1 5) 2000 m 0).2.2.2) = some ((if r = true then 1 else 0), hx', y4, y5, y6)) ∧ (∀ (bm nm y20 y21 : Nat → Int32), (∀ j, j < 6 → bm j = nI (m j)) → (∀ j, j < 6 → nm j = nI ((RUN n P (T.2.1 4) (T.2.1 5) 2000 m 0).1.1 j)) → ∃ (y20' y21' : Nat → Int32), f_X12_specHolds (T.1 16) (T.2.1 19) y20 y21 bm nm (nI (RUN n P (T.2.1 4) (T.2.1 5) 2000 m 0).2.1) (nI (RUN n P (T.2.1 4) (T.2.1 5) 2000 m 0).1.2.1) (nI (RUN n P (T.2.1 4) (T.2.1 5) 2000 m 0).1.2.2.1) (nI (RUN n P (T.2.1 4) (T.2.1 5) 2000 m 0).2.2.2) = some ((if r = true then 1 else 0), y20', y21')) :=
    fun m => spec_fun hs (fun j => nI (m j)) (fun j => nI ((RUN n P (T.2.1 4) (T.2.1 5) 2000 m 0).1.1 j)) _ _ _ _
  obtain ⟨q, hq⟩ := Classical.axiomOfChoice hex
  have hneg : ∀ m, (if q m = true then (1 : Int32) else 0) = (if (!(q m)) = true then 0 else 1) := by
    intro m; cases q m <;> rfl
  have hple := prB_le (bnd := bnd) (B := absN (T.2.1 5)) hk hbits hbnd
  refine ⟨ansB v (walkB (fun m => !(q m)) (waysB (chB k) bnd (absN (T.2.1 5))) (prB (waysB (chB k) bnd (absN (T.2.1 5))) 6) (begB (chB k) (absN (T.2.1 6))) 0 (fun _ => 0)), ?_, ?_⟩
  · obtain ⟨y3, y4, l1, l2, l3⟩ := x_lay (C := chB k) (bnd := bnd) hbit k3 (fun j hj => (k5 j hj).2) hbnd k4 FU 0 s3 s4 (by omega) (by unfold FU; omega) (fun j hj => absurd hj (by omega))
    obtain ⟨u, q1, q2⟩ := x_unproved (C := chB k) (bnd := bnd) (B := absN (T.2.1 5)) (M := absN (T.2.1 6)) (p := fun m => !(q m)) (c := c) (fi := fi) (se := se) (nx := nx) (ot := ot) (kf := T.2.1 4) (b := T.2.1 5) (sc := (S 7).2 0) (sw := (S 7).2 1) (sz := nI n) (rs := rs) (ssz := (S 7).1 2) k5 hbnd (v3 := v) (N := prB (waysB (chB k) bnd (absN (T.2.1 5))) 6) (by omega) l3
      (fun m hI y0 d1 d2 e3 e4 e5 e6 e7 e8 mk x10 x11 x12 x13 x14 h3 h4 h5 h6 hy => by
        obtain ⟨f', mk', p', a1, a2, a3, a4, a5, t1, t2⟩ := x_follow hn hw hp0 hX vb (InvB_MB hI k5) hI.2 hy d1 d2 e3 e4 e5 e6 e7 e8 mk x10 x11 x12 x13 x14
        obtain ⟨hx', y4, y5, y6, t3⟩ := (hq m).1 (cpI 0 y0 d1) f' h3 h4 h5 h6 (fun j hj => by rw [cpI_lt hj]; exact hy j hj) t2
        exact ⟨_, _, t1, t3, hneg m⟩)
      FU (prB (waysB (chB k) bnd (absN (T.2.1 5))) 6) 0 (begB (chB k) (absN (T.2.1 6))) 0 (fun _ => 0) y3 d1 d2 e3 e4 e5 e6 e7 e8 mk x10 x11 x12 x13 x14 h3 h4 h5 h6 (by omega) (by unfold FU; omega) InvB_0 l2 (hv.imp (fun h => h) (fun h => ⟨rfl, h⟩))
    exact ⟨_, u, l1, q1, q2⟩
  · obtain ⟨y', l1, l2⟩ := m_startsB (C := chB k) hbit k4 0 FU 0 (T.2.1 43) (by omega) (by unfold FU; omega) (fun j hj => absurd hj (by omega))
    have hpos : 0 < prB (waysB (chB k) bnd (absN (T.2.1 5))) 6 := by
      have := rkB_lt (W := waysB (chB k) bnd (absN (T.2.1 5))) 6 (begB (chB k) (absN (T.2.1 6))) (fun j _ => waysB_1 _ _ _ _) (InvB_dig InvB_0)
      omega
    have hrk : rkB (waysB (chB k) bnd (absN (T.2.1 5))) 6 (begB (chB k) (absN (T.2.1 6))) = 0 := by
      have key : ∀ i, i ≤ 6 → rkB (waysB (chB k) bnd (absN (T.2.1 5))) i (begB (chB k) (absN (T.2.1 6))) = 0 := by
        intro i
        induction i with
        | zero => intro _; rfl
        | succ i ih =>
          intro hi
          show rkB _ i _ * _ + (if waysB (chB k) bnd (absN (T.2.1 5)) i ≤ 1 then 0 else begB (chB k) (absN (T.2.1 6)) i) = 0
          rw [ih (by omega), Nat.zero_mul, Nat.zero_add]
          cases hc : chB k i with
          | false => rw [waysB_f hc]; rfl
          | true =>
            have : begB (chB k) (absN (T.2.1 6)) i = 0 := by unfold begB; rw [if_pos (by omega), if_pos hc]
            rw [this]; split <;> rfl
      exact key 6 (by omega)
    obtain ⟨u, q1, q2⟩ := m_proved (C := chB k) (bnd := bnd) (B := absN (T.2.1 5)) (M := absN (T.2.1 6)) (p := fun m => !(q m)) (kf := T.2.1 4) (b := T.2.1 5) k5 hbnd hv (msk := nI k) (wv := nI w) (sm := T.1 16) (ms := T.2.1 6) (op := T.2.1 25) (a := T.2.1 26) (bb := T.2.1 27) (lo := T.2.1 28) (co := T.2.1 19) hbit k3
      (fun m hI y d1 d2 e3 e4 e5 e6 e7 e8 h1 h2 hy => by
        obtain ⟨g', p', t1, t2⟩ := m_runsF hw3 hn e2 hw hp0 hMo vb (InvB_MB hI k5) hy d1 d2 e3 e4 e5 e6 e7 e8
        obtain ⟨y20', y21', t3⟩ := (hq m).2 (cpI 0 y d1) g' h1 h2 (fun j hj => by rw [cpI_lt hj]; exact hy j hj) t2
        exact ⟨_, _, t1, t3, hneg m⟩)
      FU (prB (waysB (chB k) bnd (absN (T.2.1 5))) 6) (begB (chB k) (absN (T.2.1 6))) 0 (fun _ => 0) (T.2.1 44) y' (T.2.1 35) (T.2.1 36) (T.1 37) (T.1 38) (T.1 39) (T.1 40) (T.1 41) (T.1 42) (T.2.1 20) (T.2.1 21) (by unfold FU; omega) (by omega) InvB_0 l2 (fun h => absurd h (by omega)) (fun _ => by rw [hrk]; omega)
    rw [if_neg (by omega)] at q1
    exact ⟨_, u, l1, q1, q2⟩
theorem ok_proved : Ok_proved Rel := by
  intro S T s1 s2 s3 s4 hR
  have hR0 := hR
  obtain ⟨ht, ⟨v1, v2, v3, vb⟩, ⟨r0, r1, r2⟩, hs, hp, hm, hb, hk⟩ := hR
  have hRel : ∀ u w, Rel (stX_proved S u) (stM_proved T w) := fun u w => ⟨ht, ⟨v1, v2, v3, vb⟩, ⟨r0, r1, r2⟩, hs, hp, hm, hb, hk⟩
  unfold f_X11_proved g_X11_proved_0 f_X12_proved g_X12_proved_0
  rw [x_isRecipe, m_isRecipe, Option.bind_some, Option.bind_some]
  by_cases h1 : (0 : Int32) ≤ s1 ∧ s1 ≤ 2
  · simp only [if_pos h1, if_neg (show ¬ (1 : Int32) = 0 by decide)]
    by_cases h2 : SV s2 s3 s4
    · rw [(x_survey s2 s3 s4).1 h2, Option.bind_some, m_areVats, if_pos (show ((1 : Int32) ≤ s2 ∧ s2 ≤ 63) ∧ bits8 s2 < 4 ∧ ((1 : Int32) ≤ s3 ∧ s3 ≤ 20) from ⟨h2.1, h2.2.1, h2.2.2.1⟩), Option.bind_some, m_in, if_pos h2.2.2.2, Option.bind_some]
      simp only [if_neg (show ¬ (1 : Int32) = 0 by decide)]
      obtain ⟨w, hw, rfl⟩ := of_rng (x := s1) (n := 2) (by omega) h1.1 h1.2
      obtain ⟨k, hk2, rfl⟩ := of_rng (x := s2) (n := 63) (by omega) (le_trans32 (by decide) h2.1.1) h2.1.2
      obtain ⟨bnd, hbnd, rfl⟩ := of_rng (x := s3) (n := 20) (by omega) (le_trans32 (by decide) h2.2.2.1.1) h2.2.2.1.2
      have hv := what_of h2.2.2.2
      rw [v1, v2, v3]
      rcases (show w = 0 ∨ w = 1 ∨ w = 2 by omega) with rfl | rfl | rfl
      · obtain ⟨r, ⟨u3, u, a1, a2, a3⟩, u4, u', a4, a5, a6⟩ := proved_both hs (w := 0) (by omega) r0 vb (show k < 64 by omega) h2.2.1 hbnd hv ((S 10).2 1) ((S 10).2 2) ((S 10).1 3) ((S 10).1 4) ((S 10).1 5) ((S 10).1 6) ((S 10).1 7) ((S 10).1 8) ((S 10).2 9) ((S 10).1 10) ((S 10).1 11) ((S 10).1 12) ((S 10).1 13) ((S 10).1 14) ((S 7).2 3) ((S 7).1 4) ((S 7).1 5) ((S 7).1 6) ((S 12).2 3) ((S 12).2 4) ((S 12).1 5)
        rw [a1, Option.bind_some, if_pos (show nI 0 = 0 from rfl), a2, Option.bind_some, a4, Option.bind_some, a5]
        exact ⟨_, _, rfl, rfl, a3.trans a6.symm, hRel _ _⟩
      · obtain ⟨r, ⟨u3, u, a1, a2, a3⟩, u4, u', a4, a5, a6⟩ := proved_both hs (w := 1) (by omega) r1 vb (show k < 64 by omega) h2.2.1 hbnd hv ((S 10).2 1) ((S 10).2 2) ((S 10).1 3) ((S 10).1 4) ((S 10).1 5) ((S 10).1 6) ((S 10).1 7) ((S 10).1 8) ((S 10).2 9) ((S 10).1 10) ((S 10).1 11) ((S 10).1 12) ((S 10).1 13) ((S 10).1 14) ((S 7).2 3) ((S 7).1 4) ((S 7).1 5) ((S 7).1 6) ((S 12).2 3) ((S 12).2 4) ((S 12).1 5)
        rw [a1, Option.bind_some, if_neg (show ¬ nI 1 = 0 by decide), if_pos (show nI 1 = 1 from rfl), a2, Option.bind_some, a4, Option.bind_some, a5]
        exact ⟨_, _, rfl, rfl, a3.trans a6.symm, hRel _ _⟩
      · obtain ⟨r, ⟨u3, u, a1, a2, a3⟩, u4, u', a4, a5, a6⟩ := proved_both hs (w := 2) (by omega) r2 vb (show k < 64 by omega) h2.2.1 hbnd hv ((S 10).2 1) ((S 10).2 2) ((S 10).1 3) ((S 10).1 4) ((S 10).1 5) ((S 10).1 6) ((S 10).1 7) ((S 10).1 8) ((S 10).2 9) ((S 10).1 10) ((S 10).1 11) ((S 10).1 12) ((S 10).1 13) ((S 10).1 14) ((S 7).2 3) ((S 7).1 4) ((S 7).1 5) ((S 7).1 6) ((S 12).2 3) ((S 12).2 4) ((S 12).1 5)
        rw [a1, Option.bind_some, if_neg (show ¬ nI 2 = 0 by decide), if_neg (show ¬ nI 2 = 1 by decide), if_pos (show nI 2 = 2 from rfl), a2, Option.bind_some, a4, Option.bind_some, a5]
        exact ⟨_, _, rfl, rfl, a3.trans a6.symm, hRel _ _⟩
    · rw [(x_survey s2 s3 s4).2 h2, Option.bind_some, if_pos rfl, m_areVats, Option.bind_some]
      by_cases h3 : ((1 : Int32) ≤ s2 ∧ s2 ≤ 63) ∧ bits8 s2 < 4 ∧ ((1 : Int32) ≤ s3 ∧ s3 ≤ 20)
      · rw [if_pos h3, if_neg (by decide), m_in, if_neg (fun h => h2 ⟨h3.1, h3.2.1, h3.2.2, h⟩), Option.bind_some, if_pos rfl]
        exact ⟨_, _, rfl, rfl, rfl, hRel _ _⟩
      · rw [if_neg h3, if_pos rfl]
        exact ⟨_, _, rfl, rfl, rfl, hRel _ _⟩
  · simp only [if_neg h1, if_true]
    exact ⟨_, _, rfl, rfl, rfl, hRel _ _⟩
