/-! fit -/
section FIT
variable {C : Nat → Bool} {bnd : Nat} {B M : Nat → Nat} {p : (Nat → Nat) → Bool} {c fi se nx ot kf b : Nat → Int32} {sz rs col : Int32}
theorem x_coloured (hM : MB B M) (hbnd : bnd ≤ 20) {v3 : Int32} {N : Nat} (hN : N < 1000000) {wy : Nat → Int32} (hwy : R6 wy (waysB C bnd B))
    (hp : ∀ m, InvB C bnd B M m → ∀ (y0 d1 d2 : Nat → Int32) (e3 e4 e5 e6 e7 e8 : Int32) (mk : Nat → Int32) (x10 x11 x12 x13 x14 : Int32), R6 y0 m → ∃ u1, f_X8_follow y0 d1 d2 e3 e4 e5 e6 e7 e8 mk x10 x11 x12 x13 x14 c fi se nx ot sz kf b rs = some u1 ∧ (u1.2.2.2.2.1 = col ↔ p m = true)) :
    ∀ (fu r i : Nat) (m : Nat → Nat) (c0 : Nat) (f : Nat → Nat) (y0 d1 d2 : Nat → Int32) (e3 e4 e5 e6 e7 e8 : Int32) (mk : Nat → Int32) (x10 x11 x12 x13 x14 : Int32), i + r = N → r < fu → InvB C bnd B M m → R6 y0 m → (v3 = -1 ∨ (c0 = 0 ∧ ∃ k, k < 6 ∧ v3 = nI k)) →
      ∃ u, g_X8_coloured_6 fu col v3 (nI c0) (nI i) y0 wy (nI N) c fi se nx ot sz d1 d2 e3 e4 e5 e6 e7 e8 mk x10 x11 x12 x13 x14 kf b rs = some u ∧ u.1 = ansB v3 (walkB p (waysB C bnd B) r m c0 f) := by
  intro fu
  induction fu with
  | zero => intro r i m c0 f y0 d1 d2 e3 e4 e5 e6 e7 e8 mk x10 x11 x12 x13 x14 h1 h2; omega
  | succ fu ih =>
    intro r i m c0 f y0 d1 d2 e3 e4 e5 e6 e7 e8 mk x10 x11 x12 x13 x14 h1 h2 hI hy hv
    simp only [g_X8_coloured_6]
    rw [ite_le (by omega) (by omega)]
    cases r with
    | zero =>
      rw [if_pos (by omega)]
      rw [show walkB p (waysB C bnd B) 0 m c0 f = (c0, f) from rfl]
      unfold ansB
      by_cases hv1 : v3 = -1
      · rw [if_pos hv1, if_pos hv1]; exact ⟨_, rfl, rfl⟩
      · rw [if_neg hv1, if_neg hv1, if_pos (hv.resolve_left hv1).1]; exact ⟨_, rfl, rfl⟩
    | succ r =>
      rw [if_neg (by omega)]
      obtain ⟨u1, q1, q3⟩ := hp m hI y0 d1 d2 e3 e4 e5 e6 e7 e8 mk x10 x11 x12 x13 x14 hy
      rw [q1, Option.bind_some]
      have key : ∀ (c1 : Nat) (f1 : Nat → Nat), (v3 = -1 ∨ (c1 = 0 ∧ ∃ k, k < 6 ∧ v3 = nI k)) → ∃ u, g_X8_coloured_50 (g_X8_coloured_6 fu) col v3 (nI c1) (nI i) y0 wy (nI N) c fi se nx ot sz u1.1 u1.2.1 u1.2.2.1 u1.2.2.2.1 u1.2.2.2.2.1 u1.2.2.2.2.2.1 u1.2.2.2.2.2.2.1 u1.2.2.2.2.2.2.2.1 u1.2.2.2.2.2.2.2.2.1 u1.2.2.2.2.2.2.2.2.2.1 u1.2.2.2.2.2.2.2.2.2.2.1 u1.2.2.2.2.2.2.2.2.2.2.2.1 u1.2.2.2.2.2.2.2.2.2.2.2.2.1 u1.2.2.2.2.2.2.2.2.2.2.2.2.2 kf b rs = some u ∧ u.1 = ansB v3 (walkB p (waysB C bnd B) r (nextB (waysB C bnd B) 6 m).2 c1 f1) := by
        intro c1 f1 hv1
        obtain ⟨y', g1, g2⟩ := x_goOn hwy (fun j _ => by have := waysB_lt (C := C) (B := B) hbnd j; omega) FU 6 y0 m (by omega) (by unfold FU; omega) hy (InvB_1000 hI hM)
        have g1' : f_X8_goOn y0 wy = some y' := g1
        unfold g_X8_coloured_50
        rw [g1', Option.bind_some, nI_s]
        exact ih r (i + 1) _ c1 f1 y' _ _ _ _ _ _ _ _ _ _ _ _ _ _ (by omega) (by omega) (InvB_next hI) g2 hv1
      have ew : walkB p (waysB C bnd B) (r + 1) m c0 f = walkB p (waysB C bnd B) r (nextB (waysB C bnd B) 6 m).2 (if p m = true then c0 + 1 else c0) (if p m = true ∧ c0 = 0 then m else f) := rfl
      rw [ew]
      by_cases hpm : p m = true
      · rw [if_pos (q3.mpr hpm), if_pos hpm]
        by_cases hv1 : v3 = -1
        · rw [if_pos hv1, nI_p]
          exact key (c0 + 1) _ (Or.inl hv1)
        · obtain ⟨hc0, k, hk, rfl⟩ := hv.resolve_left hv1
          subst hc0
          rw [if_neg hv1, if_pos (vin_nI hk (by omega)), nc k (by omega), if_pos ⟨hpm, rfl⟩]
          refine ⟨_, rfl, ?_⟩
          obtain ⟨t1, t2⟩ := walkB_pos (p := p) (W := waysB C bnd B) r (nextB (waysB C bnd B) 6 m).2 (0 + 1) m (by omega)
          unfold ansB
          rw [if_neg hv1, if_neg (by omega), t1, nc k (by omega)]
          exact hy k hk
      · rw [if_neg (fun x => hpm (q3.mp x)), if_neg hpm, if_neg (fun x => hpm x.1)]
        exact key c0 f hv
theorem m_fit (hM : MB B M) (hbnd : bnd ≤ 20) {v5 : Int32} (hv : v5 = -1 ∨ ∃ k, k < 6 ∧ v5 = nI k) {msk wv : Int32} {ms op a bb lo : Nat → Int32} (hb : bitB msk C) (hB : R6 b B)
    (hp : ∀ m, InvB C bnd B M m → ∀ (y d1 d2 : Nat → Int32) (e3 e4 e5 e6 e7 e8 : Int32), R6 y m → ∃ u1, f_X12_runsFrom wv kf b op a bb lo d1 d2 e3 e4 e5 e6 e7 e8 y = some u1 ∧ (u1.2.2.2.2.2.2.1 = col ↔ p m = true)) :
    ∀ (fu r : Nat) (m : Nat → Nat) (c0 : Nat) (f : Nat → Nat) (y44 y d1 d2 : Nat → Int32) (e3 e4 e5 e6 e7 e8 : Int32), r < fu → c0 + r < 90000 → InvB C bnd B M m → R6 y m → (0 < c0 → R6 y44 f) → (0 < r → rkB (waysB C bnd B) 6 m + r = prB (waysB C bnd B) 6) →
      ∃ u, g_X12_fit_49 fu wv msk (nI bnd) col v5 (if r = 0 then 0 else 1) kf b ms op a bb lo d1 d2 e3 e4 e5 e6 e7 e8 y y44 (nI c0) = some u ∧ u.1 = ansB v5 (walkB p (waysB C bnd B) r m c0 f) := by
  intro fu
  induction fu with
  | zero => intro r m c0 f y44 y d1 d2 e3 e4 e5 e6 e7 e8 g1; omega
  | succ fu ih =>
    intro r m c0 f y44 y d1 d2 e3 e4 e5 e6 e7 e8 g1 g2 hI hy hf hr
    simp only [g_X12_fit_49]
    cases r with
    | zero =>
      rw [if_pos (show (0 : Nat) = 0 from rfl), if_pos rfl]
      have this' : f_X12_tellsFound v5 y44 (nI c0) = some (ansB v5 (c0, f)) := m_tells hv y44 (c0, f) (by show c0 < _; omega) hf
      rw [this', Option.bind_some]
      exact ⟨_, rfl, rfl⟩
    | succ r =>
      rw [if_neg (show ¬ r + 1 = 0 by omega), if_neg (by decide)]
      obtain ⟨u1, q1, q3⟩ := hp m hI y d1 d2 e3 e4 e5 e6 e7 e8 hy
      rw [q1, Option.bind_some]
      have ew : walkB p (waysB C bnd B) (r + 1) m c0 f = walkB p (waysB C bnd B) r (nextB (waysB C bnd B) 6 m).2 (if p m = true then c0 + 1 else c0) (if p m = true ∧ c0 = 0 then m else f) := rfl
      have key : ∀ v : Int32, v = (if p m = true then 1 else 0) → ∃ u, g_X12_fit_74 (g_X12_fit_49 fu) wv msk (nI bnd) col v5 v kf b ms op a bb lo u1.1 u1.2.1 u1.2.2.1 u1.2.2.2.1 u1.2.2.2.2.1 u1.2.2.2.2.2.1 u1.2.2.2.2.2.2.1 u1.2.2.2.2.2.2.2 y y44 (nI c0) = some u ∧ u.1 = ansB v5 (walkB p (waysB C bnd B) (r + 1) m c0 f) := by
        intro v hvv
        unfold g_X12_fit_74
        rw [hvv, m_findsF _ _ _ (by omega), Option.bind_some]
        obtain ⟨y', n1, n2⟩ := m_goesN (C := C) (bnd := bnd) hb hB (fun j hj => (hM j hj).2) hbnd FU 6 y m (by omega) (by unfold FU; omega) hy (fun j hj hc => (hI.1 j (by omega)).1 hc) (InvB_1000 hI hM)
        have n1' : f_X12_goesToNext msk (nI bnd) b y = _ := n1
        obtain ⟨o1, o2⟩ := more_iff hI (r := r) (hr (by omega))
        rw [n1', Option.bind_some, o1, ew]
        have hc1 : (if p m = true then c0 + 1 else c0) ≤ c0 + 1 := by split <;> omega
        refine ih r _ _ _ _ y' _ _ _ _ _ _ _ _ (by omega) (by omega) (InvB_next hI) n2 (fun hc => ?_) o2
        by_cases h0 : p m = true ∧ c0 = 0
        · rw [if_pos h0, if_pos h0]; exact R6_cpI hy
        · rw [if_neg h0, if_neg h0]
          apply hf
          by_cases hpm : p m = true
          · rcases Nat.eq_zero_or_pos c0 with z | z
            · exact absurd ⟨hpm, z⟩ h0
            · exact z
          · rw [if_neg hpm] at hc; exact hc
      by_cases hpm : p m = true
      · rw [if_pos (q3.mpr hpm)]
        exact key 1 (by rw [if_pos hpm])
      · rw [if_neg (fun x => hpm (q3.mp x))]
        exact key 0 (by rw [if_neg hpm])
end FIT
theorem rkB_0 (k bnd : Nat) (B M : Nat → Nat) : rkB (waysB (chB k) bnd B) 6 (begB (chB k) M) = 0 := by
  have key : ∀ i, i ≤ 6 → rkB (waysB (chB k) bnd B) i (begB (chB k) M) = 0 := by
    intro i
    induction i with
    | zero => intro _; rfl
    | succ i ih =>
      intro hi
      show rkB _ i _ * _ + (if waysB (chB k) bnd B i ≤ 1 then 0 else begB (chB k) M i) = 0
      rw [ih (by omega), Nat.zero_mul, Nat.zero_add]
      cases hc : chB k i with
      | false => rw [waysB_f hc]; rfl
      | true =>
        have : begB (chB k) M i = 0 := by unfold begB; rw [if_pos (by omega), if_pos hc]
        rw [this]; split <;> rfl
  exact key 6 (by omega)
theorem prB_pos (k bnd : Nat) (B : Nat → Nat) : 0 < prB (waysB (chB k) bnd B) 6 := by
  have := rkB_lt (W := waysB (chB k) bnd B) 6 (begB (chB k) (fun _ => 0)) (fun j _ => waysB_1 _ _ _ _) (InvB_dig (M := fun _ => 0) InvB_0)
  omega
theorem fit_both {S : XS} {T : MS} {w : Nat} (hw3 : w < 3) {c fi se nx ot : Nat → Int32} {sz ac : Int32} (hRR : RR w c fi se nx ot sz ac (T.2.1 25) (T.2.1 26) (T.2.1 27) (T.2.1 28) (T.2.1 29)) {rs : Int32} (vb : RV (T.2.1 4) (T.2.1 5) (T.2.1 6) rs) {k bnd : Nat} (hk : k < 64) (hbits : bits8 (nI k) < 4) (hbnd : bnd ≤ 20) {v col : Int32} (hv : v = -1 ∨ ∃ k, k < 6 ∧ v = nI k)
    (d1 d2 : Nat → Int32) (e3 e4 e5 e6 e7 e8 : Int32) (mk : Nat → Int32) (x10 x11 x12 x13 x14 : Int32) (s3 s4 : Nat → Int32) (s5 : Int32) :
    ∃ r : Int32, (∃ u3 u, f_X8_lay (nI k) (nI bnd) s3 s4 s5 (T.2.1 5) (T.2.1 6) = some u3 ∧ f_X8_coloured col v u3.1 u3.2.1 u3.2.2 c fi se nx ot sz d1 d2 e3 e4 e5 e6 e7 e8 mk x10 x11 x12 x13 x14 (T.2.1 4) (T.2.1 5) rs = some u ∧ u.1 = r) ∧
      (∃ u4 u, f_X12_startsBeginnings (nI k) (T.2.1 6) (T.2.1 43) (T.1 46) = some u4 ∧ g_X12_fit_49 FU (nI w) (nI k) (nI bnd) col v 1 (T.2.1 4) (T.2.1 5) (T.2.1 6) (T.2.1 25) (T.2.1 26) (T.2.1 27) (T.2.1 28) (T.2.1 35) (T.2.1 36) (T.1 37) (T.1 38) (T.1 39) (T.1 40) (T.1 41) (T.1 42) u4.1 (T.2.1 44) u4.2 = some u ∧ u.1 = r) := by
  obtain ⟨n, P, hn, e1, e2, -, hw, hp0, hX, hMo⟩ := hRR
  subst e1
  obtain ⟨k1, k2, k3, k4, k5, k6⟩ := RV_abs vb
  have hbit : bitB (nI k) (chB k) := chB_bit k hk
  have hple := prB_le (bnd := bnd) (B := absN (T.2.1 5)) hk hbits hbnd
  refine ⟨ansB v (walkB (fun m => decide (nI (RUN n P (T.2.1 4) (T.2.1 5) 2000 m 0).1.2.2.2 = col)) (waysB (chB k) bnd (absN (T.2.1 5))) (prB (waysB (chB k) bnd (absN (T.2.1 5))) 6) (begB (chB k) (absN (T.2.1 6))) 0 (fun _ => 0)), ?_, ?_⟩
  · obtain ⟨y3, y4, l1, l2, l3⟩ := x_lay (C := chB k) (bnd := bnd) hbit k3 (fun j hj => (k5 j hj).2) hbnd k4 FU 0 s3 s4 (by omega) (by unfold FU; omega) (fun j hj => absurd hj (by omega))
    obtain ⟨u, q1, q2⟩ := x_coloured (C := chB k) (bnd := bnd) (B := absN (T.2.1 5)) (M := absN (T.2.1 6)) (p := fun m => decide (nI (RUN n P (T.2.1 4) (T.2.1 5) 2000 m 0).1.2.2.2 = col)) (c := c) (fi := fi) (se := se) (nx := nx) (ot := ot) (kf := T.2.1 4) (b := T.2.1 5) (sz := nI n) (rs := rs) (col := col) k5 hbnd (v3 := v) (N := prB (waysB (chB k) bnd (absN (T.2.1 5))) 6) (by omega) l3
      (fun m hI y0 d1 d2 e3 e4 e5 e6 e7 e8 mk x10 x11 x12 x13 x14 hy => by
        obtain ⟨f', mk', p', a1, a2, a3, a4, a5, t1, t2⟩ := x_follow hn hw hp0 hX vb (InvB_MB hI k5) hI.2 hy d1 d2 e3 e4 e5 e6 e7 e8 mk x10 x11 x12 x13 x14
        exact ⟨_, t1, decide_eq_true_iff.symm⟩)
      FU (prB (waysB (chB k) bnd (absN (T.2.1 5))) 6) 0 (begB (chB k) (absN (T.2.1 6))) 0 (fun _ => 0) y3 d1 d2 e3 e4 e5 e6 e7 e8 mk x10 x11 x12 x13 x14 (by omega) (by unfold FU; omega) InvB_0 l2 (hv.imp (fun h => h) (fun h => ⟨rfl, h⟩))
    exact ⟨_, u, l1, q1, q2⟩
  · obtain ⟨y', l1, l2⟩ := m_startsB (C := chB k) hbit k4 0 FU 0 (T.2.1 43) (by omega) (by unfold FU; omega) (fun j hj => absurd hj (by omega))
    have hpos := prB_pos k bnd (absN (T.2.1 5))
    obtain ⟨u, q1, q2⟩ := m_fit (C := chB k) (bnd := bnd) (B := absN (T.2.1 5)) (M := absN (T.2.1 6)) (p := fun m => decide (nI (RUN n P (T.2.1 4) (T.2.1 5) 2000 m 0).1.2.2.2 = col)) (kf := T.2.1 4) (b := T.2.1 5) (col := col) k5 hbnd hv (msk := nI k) (wv := nI w) (ms := T.2.1 6) (op := T.2.1 25) (a := T.2.1 26) (bb := T.2.1 27) (lo := T.2.1 28) hbit k3
      (fun m hI y d1 d2 e3 e4 e5 e6 e7 e8 hy => by
        obtain ⟨g', p', t1, t2⟩ := m_runsF hw3 hn e2 hw hp0 hMo vb (InvB_MB hI k5) hy d1 d2 e3 e4 e5 e6 e7 e8
        exact ⟨_, t1, decide_eq_true_iff.symm⟩)
      FU (prB (waysB (chB k) bnd (absN (T.2.1 5))) 6) (begB (chB k) (absN (T.2.1 6))) 0 (fun _ => 0) (T.2.1 44) y' (T.2.1 35) (T.2.1 36) (T.1 37) (T.1 38) (T.1 39) (T.1 40) (T.1 41) (T.1 42) (by unfold FU; omega) (by omega) InvB_0 l2 (fun h => absurd h (by omega)) (fun _ => by rw [rkB_0]; omega)
    rw [if_neg (by omega)] at q1
    exact ⟨_, u, l1, q1, q2⟩
theorem ok_fit : Ok_fit Rel := by
  intro S T s1 s2 s3 s4 s5 hR
  have hR0 := hR
  obtain ⟨ht, ⟨v1, v2, v3, vb⟩, ⟨r0, r1, r2⟩, hs, hp, hm, hb, hk⟩ := hR
  have hRel : ∀ u w, Rel (stX_fit S u) (stM_fit T w) := fun u w => ⟨ht, ⟨v1, v2, v3, vb⟩, ⟨r0, r1, r2⟩, hs, hp, hm, hb, hk⟩
  unfold f_X11_fit g_X11_fit_0 f_X12_fit g_X12_fit_0
  rw [x_isRecipe, m_isRecipe, Option.bind_some, Option.bind_some]
  by_cases h1 : (0 : Int32) ≤ s1 ∧ s1 ≤ 2
  · simp only [if_pos h1, if_neg (show ¬ (1 : Int32) = 0 by decide)]
    rw [w_in, m_areVats, m_in, m_in, Option.bind_some, Option.bind_some, Option.bind_some, Option.bind_some]
    by_cases h4 : (0 : Int32) ≤ s4 ∧ s4 ≤ 1008
    · simp only [if_pos h4, if_neg (show ¬ (1 : Int32) = 0 by decide)]
      by_cases h2 : SV s2 s3 s5
      · rw [(x_survey s2 s3 s5).1 h2, Option.bind_some, if_pos (show ((1 : Int32) ≤ s2 ∧ s2 ≤ 63) ∧ bits8 s2 < 4 ∧ ((1 : Int32) ≤ s3 ∧ s3 ≤ 20) from ⟨h2.1, h2.2.1, h2.2.2.1⟩), if_pos h2.2.2.2]
        simp only [if_neg (show ¬ (1 : Int32) = 0 by decide)]
        obtain ⟨w, hw, rfl⟩ := of_rng (x := s1) (n := 2) (by omega) h1.1 h1.2
        obtain ⟨k, hk2, rfl⟩ := of_rng (x := s2) (n := 63) (by omega) (le_trans32 (by decide) h2.1.1) h2.1.2
        obtain ⟨bnd, hbnd, rfl⟩ := of_rng (x := s3) (n := 20) (by omega) (le_trans32 (by decide) h2.2.2.1.1) h2.2.2.1.2
        have hv := what_of h2.2.2.2
        rw [v1, v2, v3]
        rcases (show w = 0 ∨ w = 1 ∨ w = 2 by omega) with rfl | rfl | rfl
        · obtain ⟨r, ⟨u3, u, a1, a2, a3⟩, u4, u', a4, a5, a6⟩ := fit_both (S := S) (w := 0) (by omega) r0 vb (show k < 64 by omega) h2.2.1 hbnd (col := s4) hv ((S 10).2 1) ((S 10).2 2) ((S 10).1 3) ((S 10).1 4) ((S 10).1 5) ((S 10).1 6) ((S 10).1 7) ((S 10).1 8) ((S 10).2 9) ((S 10).1 10) ((S 10).1 11) ((S 10).1 12) ((S 10).1 13) ((S 10).1 14) ((S 12).2 3) ((S 12).2 4) ((S 12).1 5)
          rw [a1, Option.bind_some, if_pos (show nI 0 = 0 from rfl), a2, Option.bind_some, a4, Option.bind_some, a5]
          exact ⟨_, _, rfl, rfl, a3.trans a6.symm, hRel _ _⟩
        · obtain ⟨r, ⟨u3, u, a1, a2, a3⟩, u4, u', a4, a5, a6⟩ := fit_both (S := S) (w := 1) (by omega) r1 vb (show k < 64 by omega) h2.2.1 hbnd (col := s4) hv ((S 10).2 1) ((S 10).2 2) ((S 10).1 3) ((S 10).1 4) ((S 10).1 5) ((S 10).1 6) ((S 10).1 7) ((S 10).1 8) ((S 10).2 9) ((S 10).1 10) ((S 10).1 11) ((S 10).1 12) ((S 10).1 13) ((S 10).1 14) ((S 12).2 3) ((S 12).2 4) ((S 12).1 5)
          rw [a1, Option.bind_some, if_neg (show ¬ nI 1 = 0 by decide), if_pos (show nI 1 = 1 from rfl), a2, Option.bind_some, a4, Option.bind_some, a5]
          exact ⟨_, _, rfl, rfl, a3.trans a6.symm, hRel _ _⟩
        · obtain ⟨r, ⟨u3, u, a1, a2, a3⟩, u4, u', a4, a5, a6⟩ := fit_both (S := S) (w := 2) (by omega) r2 vb (show k < 64 by omega) h2.2.1 hbnd (col := s4) hv ((S 10).2 1) ((S 10).2 2) ((S 10).1 3) ((S 10).1 4) ((S 10).1 5) ((S 10).1 6) ((S 10).1 7) ((S 10).1 8) ((S 10).2 9) ((S 10).1 10) ((S 10).1 11) ((S 10).1 12) ((S 10).1 13) ((S 10).1 14) ((S 12).2 3) ((S 12).2 4) ((S 12).1 5)
          rw [a1, Option.bind_some, if_neg (show ¬ nI 2 = 0 by decide), if_neg (show ¬ nI 2 = 1 by decide), if_pos (show nI 2 = 2 from rfl), a2, Option.bind_some, a4, Option.bind_some, a5]
          exact ⟨_, _, rfl, rfl, a3.trans a6.symm, hRel _ _⟩
      · rw [(x_survey s2 s3 s5).2 h2, Option.bind_some, if_pos rfl]
        by_cases h3 : ((1 : Int32) ≤ s2 ∧ s2 ≤ 63) ∧ bits8 s2 < 4 ∧ ((1 : Int32) ≤ s3 ∧ s3 ≤ 20)
        · rw [if_pos h3, if_neg (by decide), if_neg (fun h => h2 ⟨h3.1, h3.2.1, h3.2.2, h⟩), if_pos rfl]
          exact ⟨_, _, rfl, rfl, rfl, hRel _ _⟩
        · rw [if_neg h3, if_pos rfl]
          exact ⟨_, _, rfl, rfl, rfl, hRel _ _⟩
    · simp only [if_neg h4, if_true]
      by_cases h3 : ((1 : Int32) ≤ s2 ∧ s2 ≤ 63) ∧ bits8 s2 < 4 ∧ ((1 : Int32) ≤ s3 ∧ s3 ≤ 20)
      · rw [if_pos h3, if_neg (by decide)]
        exact ⟨_, _, rfl, rfl, rfl, hRel _ _⟩
      · rw [if_neg h3, if_pos rfl]
        exact ⟨_, _, rfl, rfl, rfl, hRel _ _⟩
  · simp only [if_neg h1, if_true]
    exact ⟨_, _, rfl, rfl, rfl, hRel _ _⟩
