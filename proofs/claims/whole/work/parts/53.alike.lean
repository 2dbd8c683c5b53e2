/-! alike -/
theorem has_meas (f g : Nat → Int32) : ∀ (fu i : Nat), i ≤ 6 → 7 ≤ fu + i → ((∀ j, i ≤ j → j < 6 → f j = g j) → g_X0_hasMeasuresOf_2 fu (nI i) f g = some 1) ∧ ((¬ ∀ j, i ≤ j → j < 6 → f j = g j) → g_X0_hasMeasuresOf_2 fu (nI i) f g = some 0) := by
  intro fu
  induction fu with
  | zero => intro i h1 h2; omega
  | succ fu ih =>
    intro i h1 h2
    rcases Nat.lt_or_ge i 6 with hi | hi
    · have e : g_X0_hasMeasuresOf_2 (fu + 1) (nI i) f g = (if f i = g i then g_X0_hasMeasuresOf_2 fu (nI (i + 1)) f g else some 0) := by
        simp only [g_X0_hasMeasuresOf_2]
        rw [if_neg (c6_le hi), if_pos (vin_nI hi (by omega)), nc i (by omega), nI_s]
      rw [e]
      obtain ⟨q1, q2⟩ := ih (i + 1) (by omega) (by omega)
      by_cases h : f i = g i
      · rw [if_pos h]
        refine ⟨fun hh => q1 (fun j hj hj6 => hh j (by omega) hj6), fun hh => q2 (fun hj => hh (fun j hj1 hj6 => ?_))⟩
        rcases Nat.lt_or_ge i j with q | q
        · exact hj j q hj6
        · rw [show j = i by omega]; exact h
      · rw [if_neg h]
        exact ⟨fun hh => absurd (hh i (Nat.le_refl i) hi) h, fun _ => rfl⟩
    · have hi6 : i = 6 := by omega
      subst hi6
      have e : g_X0_hasMeasuresOf_2 (fu + 1) (nI 6) f g = some 1 := by
        simp only [g_X0_hasMeasuresOf_2]
        rw [if_pos c6_ge]
      exact ⟨fun _ => e, fun hh => absurd (fun j h3 h4 => absurd h4 (by omega)) hh⟩
theorem has_measF (f g : Nat → Int32) : ((∀ j, j < 6 → f j = g j) → f_X0_hasMeasuresOf f g = some 1) ∧ ((¬ ∀ j, j < 6 → f j = g j) → f_X0_hasMeasuresOf f g = some 0) := by
  obtain ⟨h1, h2⟩ := has_meas f g FU 0 (by omega) (by unfold FU; omega)
  exact ⟨fun h => h1 (fun j _ hj => h j hj), fun h => h2 (fun hh => h (fun j hj => hh j (by omega) hj))⟩
section ALIKE
variable {C : Nat → Bool} {bnd : Nat} {B M : Nat → Nat} {p : (Nat → Nat) → Bool} {c fi se nx ot c2 fi2 se2 nx2 ot2 kf b : Nat → Int32} {sz sz2 rs : Int32}
theorem x_unlikex (hM : MB B M) (hbnd : bnd ≤ 20) {v3 : Int32} {N : Nat} (hN : N < 1000000) {wy : Nat → Int32} (hwy : R6 wy (waysB C bnd B))
    (hp : ∀ m, InvB C bnd B M m → ∀ (y0 : Nat → Int32) (d1 d2 : Nat → Int32) (e3 e4 e5 e6 e7 e8 : Int32) (mk : Nat → Int32) (x10 x11 x12 x13 x14 : Int32) (k1 k2 : Nat → Int32) (l3 l4 l5 l6 l7 l8 : Int32) (mk2 : Nat → Int32) (y10 y11 y12 y13 y14 : Int32), R6 y0 m → ∃ u1 u2, f_X8_follow y0 d1 d2 e3 e4 e5 e6 e7 e8 mk x10 x11 x12 x13 x14 c fi se nx ot sz kf b rs = some u1 ∧ f_X8_follow y0 k1 k2 l3 l4 l5 l6 l7 l8 mk2 y10 y11 y12 y13 y14 c2 fi2 se2 nx2 ot2 sz2 kf b rs = some u2 ∧ ((p m = true ∧ (¬ u1.2.2.2.2.2.2.2.1 = u2.2.2.2.2.2.2.2.1 ∨ (u1.2.2.2.2.2.2.2.1 = u2.2.2.2.2.2.2.2.1 ∧ f_X0_hasMeasuresOf u1.2.1 u2.2.1 = some 0))) ∨ (p m = false ∧ u1.2.2.2.2.2.2.2.1 = u2.2.2.2.2.2.2.2.1 ∧ f_X0_hasMeasuresOf u1.2.1 u2.2.1 = some 1))) :
    ∀ (fu r i : Nat) (m : Nat → Nat) (c0 : Nat) (f : Nat → Nat) (y0 : Nat → Int32) (d1 d2 : Nat → Int32) (e3 e4 e5 e6 e7 e8 : Int32) (mk : Nat → Int32) (x10 x11 x12 x13 x14 : Int32) (k1 k2 : Nat → Int32) (l3 l4 l5 l6 l7 l8 : Int32) (mk2 : Nat → Int32) (y10 y11 y12 y13 y14 : Int32), i + r = N → r < fu → InvB C bnd B M m → R6 y0 m → (v3 = -1 ∨ (c0 = 0 ∧ ∃ k, k < 6 ∧ v3 = nI k)) →
      ∃ u, g_X8_unlikex_6 fu v3 (nI c0) (nI i) y0 wy (nI N) c fi se nx ot sz c2 fi2 se2 nx2 ot2 sz2 d1 d2 e3 e4 e5 e6 e7 e8 mk x10 x11 x12 x13 x14 k1 k2 l3 l4 l5 l6 l7 l8 mk2 y10 y11 y12 y13 y14 kf b rs = some u ∧ u.1 = ansB v3 (walkB p (waysB C bnd B) r m c0 f) := by
  intro fu
  induction fu with
  | zero => intro r i m c0 f y0 d1 d2 e3 e4 e5 e6 e7 e8 mk x10 x11 x12 x13 x14 k1 k2 l3 l4 l5 l6 l7 l8 mk2 y10 y11 y12 y13 y14 h1 h2; omega
  | succ fu ih =>
    intro r i m c0 f y0 d1 d2 e3 e4 e5 e6 e7 e8 mk x10 x11 x12 x13 x14 k1 k2 l3 l4 l5 l6 l7 l8 mk2 y10 y11 y12 y13 y14 h1 h2 hI hy hv
    simp only [g_X8_unlikex_6]
    rw [ite_le (by omega) (by omega)]
    cases r with
    | zero =>
      rw [if_pos (by omega)]
      rw [show walkB p (waysB C bnd B) 0 m c0 f = (c0, f) from rfl]
      unfold ansB
      by_cases hv1 : v3 = -1
      · rw [if_pos hv1, if_pos hv1]; exact ⟨_, rfl, rfl⟩
      · rw [if_neg hv1, if_neg hv1, if_pos (hv.resolve_left hv1).1]; exact ⟨_, rfl, rfl⟩
    | succ r =>
      rw [if_neg (by omega)]
      obtain ⟨u1, u2, q1, q2, q3⟩ := hp m hI y0 d1 d2 e3 e4 e5 e6 e7 e8 mk x10 x11 x12 x13 x14 k1 k2 l3 l4 l5 l6 l7 l8 mk2 y10 y11 y12 y13 y14 hy
      rw [q1, Option.bind_some, q2, Option.bind_some]
      have key : ∀ (c1 : Nat) (f1 : Nat → Nat), (v3 = -1 ∨ (c1 = 0 ∧ ∃ k, k < 6 ∧ v3 = nI k)) → ∃ u, g_X8_unlikex_79 (g_X8_unlikex_6 fu) v3 (nI c1) (nI i) y0 wy (nI N) c fi se nx ot sz c2 fi2 se2 nx2 ot2 sz2 u1.1 u1.2.1 u1.2.2.1 u1.2.2.2.1 u1.2.2.2.2.1 u1.2.2.2.2.2.1 u1.2.2.2.2.2.2.1 u1.2.2.2.2.2.2.2.1 u1.2.2.2.2.2.2.2.2.1 u1.2.2.2.2.2.2.2.2.2.1 u1.2.2.2.2.2.2.2.2.2.2.1 u1.2.2.2.2.2.2.2.2.2.2.2.1 u1.2.2.2.2.2.2.2.2.2.2.2.2.1 u1.2.2.2.2.2.2.2.2.2.2.2.2.2 u2.1 u2.2.1 u2.2.2.1 u2.2.2.2.1 u2.2.2.2.2.1 u2.2.2.2.2.2.1 u2.2.2.2.2.2.2.1 u2.2.2.2.2.2.2.2.1 u2.2.2.2.2.2.2.2.2.1 u2.2.2.2.2.2.2.2.2.2.1 u2.2.2.2.2.2.2.2.2.2.2.1 u2.2.2.2.2.2.2.2.2.2.2.2.1 u2.2.2.2.2.2.2.2.2.2.2.2.2.1 u2.2.2.2.2.2.2.2.2.2.2.2.2.2 kf b rs = some u ∧ u.1 = ansB v3 (walkB p (waysB C bnd B) r (nextB (waysB C bnd B) 6 m).2 c1 f1) := by
        intro c1 f1 hv1
        obtain ⟨y', g1, g2⟩ := x_goOn hwy (fun j _ => by have := waysB_lt (C := C) (B := B) hbnd j; omega) FU 6 y0 m (by omega) (by unfold FU; omega) hy (InvB_1000 hI hM)
        have g1' : f_X8_goOn y0 wy = some y' := g1
        unfold g_X8_unlikex_79
        rw [g1', Option.bind_some, nI_s]
        exact ih r (i + 1) _ c1 f1 y' _ _ _ _ _ _ _ _ _ _ _ _ _ _ _ _ _ _ _ _ _ _ _ _ _ _ _ _ (by omega) (by omega) (InvB_next hI) g2 hv1
      have ew : walkB p (waysB C bnd B) (r + 1) m c0 f = walkB p (waysB C bnd B) r (nextB (waysB C bnd B) 6 m).2 (if p m = true then c0 + 1 else c0) (if p m = true ∧ c0 = 0 then m else f) := rfl
      have key2 : p m = true → ∃ u, g_X8_unlikex_64 (g_X8_unlikex_6 fu) v3 (nI c0) (nI i) y0 wy (nI N) c fi se nx ot sz c2 fi2 se2 nx2 ot2 sz2 u1.1 u1.2.1 u1.2.2.1 u1.2.2.2.1 u1.2.2.2.2.1 u1.2.2.2.2.2.1 u1.2.2.2.2.2.2.1 u1.2.2.2.2.2.2.2.1 u1.2.2.2.2.2.2.2.2.1 u1.2.2.2.2.2.2.2.2.2.1 u1.2.2.2.2.2.2.2.2.2.2.1 u1.2.2.2.2.2.2.2.2.2.2.2.1 u1.2.2.2.2.2.2.2.2.2.2.2.2.1 u1.2.2.2.2.2.2.2.2.2.2.2.2.2 u2.1 u2.2.1 u2.2.2.1 u2.2.2.2.1 u2.2.2.2.2.1 u2.2.2.2.2.2.1 u2.2.2.2.2.2.2.1 u2.2.2.2.2.2.2.2.1 u2.2.2.2.2.2.2.2.2.1 u2.2.2.2.2.2.2.2.2.2.1 u2.2.2.2.2.2.2.2.2.2.2.1 u2.2.2.2.2.2.2.2.2.2.2.2.1 u2.2.2.2.2.2.2.2.2.2.2.2.2.1 u2.2.2.2.2.2.2.2.2.2.2.2.2.2 kf b rs = some u ∧ u.1 = ansB v3 (walkB p (waysB C bnd B) (r + 1) m c0 f) := by
        intro hpm
        rw [ew, if_pos hpm]
        unfold g_X8_unlikex_64
        by_cases hv1 : v3 = -1
        · rw [if_pos hv1, nI_p]
          exact key (c0 + 1) _ (Or.inl hv1)
        · obtain ⟨hc0, k, hk, rfl⟩ := hv.resolve_left hv1
          subst hc0
          rw [if_neg hv1, if_pos (vin_nI hk (by omega)), nc k (by omega), if_pos ⟨hpm, rfl⟩]
          refine ⟨_, rfl, ?_⟩
          obtain ⟨t1, t2⟩ := walkB_pos (p := p) (W := waysB C bnd B) r (nextB (waysB C bnd B) 6 m).2 (0 + 1) m (by omega)
          unfold ansB
          rw [if_neg hv1, if_neg (by omega), t1, nc k (by omega)]
          exact hy k hk
      rcases q3 with ⟨hpm, q4 | ⟨q4, q5⟩⟩ | ⟨hpm, q4, q5⟩
      · rw [if_neg q4]
        exact key2 hpm
      · rw [if_pos q4, q5, Option.bind_some, if_pos rfl]
        exact key2 hpm
      · rw [if_pos q4, q5, Option.bind_some, if_neg (by decide), ew, if_neg (by rw [hpm]; decide), if_neg (fun x => absurd (hpm.symm.trans x.1) (by decide))]
        exact key c0 f hv
theorem x_unlikes (hM : MB B M) (hbnd : bnd ≤ 20) {v3 : Int32} {N : Nat} (hN : N < 1000000) {wy : Nat → Int32} (hwy : R6 wy (waysB C bnd B))
    (hp : ∀ m, InvB C bnd B M m → ∀ (y0 : Nat → Int32) (d1 d2 : Nat → Int32) (e3 e4 e5 e6 e7 e8 : Int32) (mk : Nat → Int32) (x10 x11 x12 x13 x14 : Int32) (k1 k2 : Nat → Int32) (l3 l4 l5 l6 l7 l8 : Int32) (mk2 : Nat → Int32) (y10 y11 y12 y13 y14 : Int32), R6 y0 m → ∃ u1 u2, f_X8_follow y0 d1 d2 e3 e4 e5 e6 e7 e8 mk x10 x11 x12 x13 x14 c fi se nx ot sz kf b rs = some u1 ∧ f_X8_follow y0 k1 k2 l3 l4 l5 l6 l7 l8 mk2 y10 y11 y12 y13 y14 c fi se nx ot sz kf b rs = some u2 ∧ ((p m = true ∧ (¬ u1.2.2.2.2.2.2.2.1 = u2.2.2.2.2.2.2.2.1 ∨ (u1.2.2.2.2.2.2.2.1 = u2.2.2.2.2.2.2.2.1 ∧ f_X0_hasMeasuresOf u1.2.1 u2.2.1 = some 0))) ∨ (p m = false ∧ u1.2.2.2.2.2.2.2.1 = u2.2.2.2.2.2.2.2.1 ∧ f_X0_hasMeasuresOf u1.2.1 u2.2.1 = some 1))) :
    ∀ (fu r i : Nat) (m : Nat → Nat) (c0 : Nat) (f : Nat → Nat) (y0 : Nat → Int32) (d1 d2 : Nat → Int32) (e3 e4 e5 e6 e7 e8 : Int32) (mk : Nat → Int32) (x10 x11 x12 x13 x14 : Int32) (k1 k2 : Nat → Int32) (l3 l4 l5 l6 l7 l8 : Int32) (mk2 : Nat → Int32) (y10 y11 y12 y13 y14 : Int32), i + r = N → r < fu → InvB C bnd B M m → R6 y0 m → (v3 = -1 ∨ (c0 = 0 ∧ ∃ k, k < 6 ∧ v3 = nI k)) →
      ∃ u, g_X8_unlikes_6 fu v3 (nI c0) (nI i) y0 wy (nI N) c fi se nx ot sz d1 d2 e3 e4 e5 e6 e7 e8 mk x10 x11 x12 x13 x14 k1 k2 l3 l4 l5 l6 l7 l8 mk2 y10 y11 y12 y13 y14 kf b rs = some u ∧ u.1 = ansB v3 (walkB p (waysB C bnd B) r m c0 f) := by
  intro fu
  induction fu with
  | zero => intro r i m c0 f y0 d1 d2 e3 e4 e5 e6 e7 e8 mk x10 x11 x12 x13 x14 k1 k2 l3 l4 l5 l6 l7 l8 mk2 y10 y11 y12 y13 y14 h1 h2; omega
  | succ fu ih =>
    intro r i m c0 f y0 d1 d2 e3 e4 e5 e6 e7 e8 mk x10 x11 x12 x13 x14 k1 k2 l3 l4 l5 l6 l7 l8 mk2 y10 y11 y12 y13 y14 h1 h2 hI hy hv
    simp only [g_X8_unlikes_6]
    rw [ite_le (by omega) (by omega)]
    cases r with
    | zero =>
      rw [if_pos (by omega)]
      rw [show walkB p (waysB C bnd B) 0 m c0 f = (c0, f) from rfl]
      unfold ansB
      by_cases hv1 : v3 = -1
      · rw [if_pos hv1, if_pos hv1]; exact ⟨_, rfl, rfl⟩
      · rw [if_neg hv1, if_neg hv1, if_pos (hv.resolve_left hv1).1]; exact ⟨_, rfl, rfl⟩
    | succ r =>
      rw [if_neg (by omega)]
      obtain ⟨u1, u2, q1, q2, q3⟩ := hp m hI y0 d1 d2 e3 e4 e5 e6 e7 e8 mk x10 x11 x12 x13 x14 k1 k2 l3 l4 l5 l6 l7 l8 mk2 y10 y11 y12 y13 y14 hy
      rw [q1, Option.bind_some, q2, Option.bind_some]
      have key : ∀ (c1 : Nat) (f1 : Nat → Nat), (v3 = -1 ∨ (c1 = 0 ∧ ∃ k, k < 6 ∧ v3 = nI k)) → ∃ u, g_X8_unlikes_79 (g_X8_unlikes_6 fu) v3 (nI c1) (nI i) y0 wy (nI N) c fi se nx ot sz u1.1 u1.2.1 u1.2.2.1 u1.2.2.2.1 u1.2.2.2.2.1 u1.2.2.2.2.2.1 u1.2.2.2.2.2.2.1 u1.2.2.2.2.2.2.2.1 u1.2.2.2.2.2.2.2.2.1 u1.2.2.2.2.2.2.2.2.2.1 u1.2.2.2.2.2.2.2.2.2.2.1 u1.2.2.2.2.2.2.2.2.2.2.2.1 u1.2.2.2.2.2.2.2.2.2.2.2.2.1 u1.2.2.2.2.2.2.2.2.2.2.2.2.2 u2.1 u2.2.1 u2.2.2.1 u2.2.2.2.1 u2.2.2.2.2.1 u2.2.2.2.2.2.1 u2.2.2.2.2.2.2.1 u2.2.2.2.2.2.2.2.1 u2.2.2.2.2.2.2.2.2.1 u2.2.2.2.2.2.2.2.2.2.1 u2.2.2.2.2.2.2.2.2.2.2.1 u2.2.2.2.2.2.2.2.2.2.2.2.1 u2.2.2.2.2.2.2.2.2.2.2.2.2.1 u2.2.2.2.2.2.2.2.2.2.2.2.2.2 kf b rs = some u ∧ u.1 = ansB v3 (walkB p (waysB C bnd B) r (nextB (waysB C bnd B) 6 m).2 c1 f1) := by
        intro c1 f1 hv1
        obtain ⟨y', g1, g2⟩ := x_goOn hwy (fun j _ => by have := waysB_lt (C := C) (B := B) hbnd j; omega) FU 6 y0 m (by omega) (by unfold FU; omega) hy (InvB_1000 hI hM)
        have g1' : f_X8_goOn y0 wy = some y' := g1
        unfold g_X8_unlikes_79
        rw [g1', Option.bind_some, nI_s]
        exact ih r (i + 1) _ c1 f1 y' _ _ _ _ _ _ _ _ _ _ _ _ _ _ _ _ _ _ _ _ _ _ _ _ _ _ _ _ (by omega) (by omega) (InvB_next hI) g2 hv1
      have ew : walkB p (waysB C bnd B) (r + 1) m c0 f = walkB p (waysB C bnd B) r (nextB (waysB C bnd B) 6 m).2 (if p m = true then c0 + 1 else c0) (if p m = true ∧ c0 = 0 then m else f) := rfl
      have key2 : p m = true → ∃ u, g_X8_unlikes_64 (g_X8_unlikes_6 fu) v3 (nI c0) (nI i) y0 wy (nI N) c fi se nx ot sz u1.1 u1.2.1 u1.2.2.1 u1.2.2.2.1 u1.2.2.2.2.1 u1.2.2.2.2.2.1 u1.2.2.2.2.2.2.1 u1.2.2.2.2.2.2.2.1 u1.2.2.2.2.2.2.2.2.1 u1.2.2.2.2.2.2.2.2.2.1 u1.2.2.2.2.2.2.2.2.2.2.1 u1.2.2.2.2.2.2.2.2.2.2.2.1 u1.2.2.2.2.2.2.2.2.2.2.2.2.1 u1.2.2.2.2.2.2.2.2.2.2.2.2.2 u2.1 u2.2.1 u2.2.2.1 u2.2.2.2.1 u2.2.2.2.2.1 u2.2.2.2.2.2.1 u2.2.2.2.2.2.2.1 u2.2.2.2.2.2.2.2.1 u2.2.2.2.2.2.2.2.2.1 u2.2.2.2.2.2.2.2.2.2.1 u2.2.2.2.2.2.2.2.2.2.2.1 u2.2.2.2.2.2.2.2.2.2.2.2.1 u2.2.2.2.2.2.2.2.2.2.2.2.2.1 u2.2.2.2.2.2.2.2.2.2.2.2.2.2 kf b rs = some u ∧ u.1 = ansB v3 (walkB p (waysB C bnd B) (r + 1) m c0 f) := by
        intro hpm
        rw [ew, if_pos hpm]
        unfold g_X8_unlikes_64
        by_cases hv1 : v3 = -1
        · rw [if_pos hv1, nI_p]
          exact key (c0 + 1) _ (Or.inl hv1)
        · obtain ⟨hc0, k, hk, rfl⟩ := hv.resolve_left hv1
          subst hc0
          rw [if_neg hv1, if_pos (vin_nI hk (by omega)), nc k (by omega), if_pos ⟨hpm, rfl⟩]
          refine ⟨_, rfl, ?_⟩
          obtain ⟨t1, t2⟩ := walkB_pos (p := p) (W := waysB C bnd B) r (nextB (waysB C bnd B) 6 m).2 (0 + 1) m (by omega)
          unfold ansB
          rw [if_neg hv1, if_neg (by omega), t1, nc k (by omega)]
          exact hy k hk
      rcases q3 with ⟨hpm, q4 | ⟨q4, q5⟩⟩ | ⟨hpm, q4, q5⟩
      · rw [if_neg q4]
        exact key2 hpm
      · rw [if_pos q4, q5, Option.bind_some, if_pos rfl]
        exact key2 hpm
      · rw [if_pos q4, q5, Option.bind_some, if_neg (by decide), ew, if_neg (by rw [hpm]; decide), if_neg (fun x => absurd (hpm.symm.trans x.1) (by decide))]
        exact key c0 f hv
end ALIKE
section ENDO
variable {kf b op a bb lo y43 : Nat → Int32}
theorem m_endO63 (d1 g1 : Nat → Int32) (e3 e4 e5 e6 e7 e8 : Int32) (y45 : Nat → Int32) : ∀ (fu i : Nat) (t : Bool), i ≤ 6 → 7 ≤ fu + i → ∃ t' : Bool, g_X12_endOtherwise_63 fu (if t = true then 1 else 0) (nI i) kf b op a bb lo d1 g1 e3 e4 e5 e6 e7 e8 y43 y45 = some ((if t' = true then 1 else 0), d1, g1, e3, e4, e5, e6, e7, e8, y45) ∧ (t' = false ↔ t = false ∧ ∀ j, i ≤ j → j < 6 → y45 j = g1 j) := by
  intro fu
  induction fu with
  | zero => intro i t h1 h2; omega
  | succ fu ih =>
    intro i t h1 h2
    simp only [g_X12_endOtherwise_63]
    rcases Nat.lt_or_ge i 6 with hi | hi
    · rw [if_neg (c6_le hi), if_pos (vin_nI hi (by omega)), nc i (by omega), nI_s]
      cases t with
      | false =>
        rw [if_neg (show ¬ false = true by decide), if_pos rfl]
        by_cases h : y45 i = g1 i
        · rw [if_pos h]
          obtain ⟨t', q1, q2⟩ := ih (i + 1) false (by omega) (by omega)
          refine ⟨t', q1, q2.trans ⟨fun hh => ⟨rfl, fun j hj hj6 => ?_⟩, fun hh => ⟨rfl, fun j hj hj6 => hh.2 j (by omega) hj6⟩⟩⟩
          rcases Nat.lt_or_ge i j with q | q
          · exact hh.2 j q hj6
          · rw [show j = i by omega]; exact h
        · rw [if_neg h]
          obtain ⟨t', q1, q2⟩ := ih (i + 1) true (by omega) (by omega)
          exact ⟨t', q1, q2.trans ⟨fun hh => absurd hh.1 (by decide), fun hh => absurd (hh.2 i (Nat.le_refl _) hi) h⟩⟩
      | true =>
        rw [if_pos (show true = true from rfl), if_neg (by decide)]
        obtain ⟨t', q1, q2⟩ := ih (i + 1) true (by omega) (by omega)
        exact ⟨t', q1, q2.trans ⟨fun hh => absurd hh.1 (by decide), fun hh => absurd hh.1 (by decide)⟩⟩
    · have hi6 : i = 6 := by omega
      subst hi6
      rw [if_pos c6_ge, if_pos (by cases t <;> rfl)]
      exact ⟨t, rfl, ⟨fun hh => ⟨hh, fun j h3 h4 => absurd h4 (by omega)⟩, fun hh => hh.1⟩⟩
theorem m_endO13 (v2 v3 : Int32) (d1 g1 : Nat → Int32) (e3 e4 e5 e6 e7 e8 : Int32) : ∀ (fu i : Nat) (y45 : Nat → Int32), i ≤ 6 → 7 ≤ fu + i → g_X12_endOtherwise_13 fu v2 v3 (nI i) kf b op a bb lo d1 g1 e3 e4 e5 e6 e7 e8 y43 y45 = (f_X12_runsFrom v2 kf b op a bb lo d1 g1 e3 e4 e5 e6 e7 e8 y43).bind (fun u1 => (if v3 = u1.2.2.2.2.2.2.2 then g_X12_endOtherwise_63 FU 0 0 kf b op a bb lo u1.1 u1.2.1 u1.2.2.1 u1.2.2.2.1 u1.2.2.2.2.1 u1.2.2.2.2.2.1 u1.2.2.2.2.2.2.1 u1.2.2.2.2.2.2.2 y43 (cpI i g1 y45) else g_X12_endOtherwise_63 FU 1 0 kf b op a bb lo u1.1 u1.2.1 u1.2.2.1 u1.2.2.2.1 u1.2.2.2.2.1 u1.2.2.2.2.2.1 u1.2.2.2.2.2.2.1 u1.2.2.2.2.2.2.2 y43 (cpI i g1 y45))) := by
  intro fu
  induction fu with
  | zero => intro i y45 h1 h2; omega
  | succ fu ih =>
    intro i y45 h1 h2
    simp only [g_X12_endOtherwise_13]
    rcases Nat.lt_or_ge i 6 with hi | hi
    · rw [if_neg (c6_le hi), if_pos (vin_nI hi (by omega)), nc i (by omega), nI_s, ih (i + 1) _ (by omega) (by omega), cpI_step hi]
    · have hi6 : i = 6 := by omega
      subst hi6
      rw [if_pos c6_ge, cpI_6]
end ENDO
/-- whether two runs end otherwise -/
noncomputable def othB (R1 R2 : AS) : Bool := !(@decide (nI R1.2.2.2 = nI R2.2.2.2 ∧ ∀ j, j < 6 → nI (R1.1.1 j) = nI (R2.1.1 j)) (Classical.propDecidable _))
theorem othB_f {R1 R2 : AS} : othB R1 R2 = false ↔ (nI R1.2.2.2 = nI R2.2.2.2 ∧ ∀ j, j < 6 → nI (R1.1.1 j) = nI (R2.1.1 j)) := by
  unfold othB
  rw [Bool.not_eq_false', @decide_eq_true_iff _ (Classical.propDecidable _)]
theorem othB_x {R1 R2 : AS} {f1 f2 : Nat → Int32} (h1 : R6 f1 R1.1.1) (h2 : R6 f2 R2.1.1) : (othB R1 R2 = true ∧ (¬ nI R1.2.2.2 = nI R2.2.2.2 ∨ (nI R1.2.2.2 = nI R2.2.2.2 ∧ f_X0_hasMeasuresOf f1 f2 = some 0))) ∨ (othB R1 R2 = false ∧ nI R1.2.2.2 = nI R2.2.2.2 ∧ f_X0_hasMeasuresOf f1 f2 = some 1) := by
  obtain ⟨m1, m2⟩ := has_measF f1 f2
  cases h : othB R1 R2 with
  | false =>
    obtain ⟨a, b⟩ := othB_f.mp h
    exact Or.inr ⟨rfl, a, m1 (fun j hj => by rw [h1 j hj, h2 j hj]; exact b j hj)⟩
  | true =>
    refine Or.inl ⟨rfl, ?_⟩
    by_cases a : nI R1.2.2.2 = nI R2.2.2.2
    · refine Or.inr ⟨a, m2 (fun hh => ?_)⟩
      have : othB R1 R2 = false := othB_f.mpr ⟨a, fun j hj => by rw [← h1 j hj, ← h2 j hj]; exact hh j hj⟩
      exact absurd (h.symm.trans this) (by decide)
    · exact Or.inl a
theorem m_endO {w1 w2 n1 n2 : Nat} {P1 P2 : PG} {kf b ms op a bb lo : Nat → Int32} {rs : Int32} {m : Nat → Nat} (hw1 : w1 < 3) (hw2 : w2 < 3) (hn1 : n1 ≤ 120) (hn2 : n2 ≤ 120) (hlo1 : lo w1 = nI n1) (hlo2 : lo w2 = nI n2) (hwf1 : PWf n1 P1) (hwf2 : PWf n2 P2) (hp1 : stp0 n1 P1) (hp2 : stp0 n2 P2) (hM1 : RMo w1 n1 P1 op a bb) (hM2 : RMo w2 n2 P2 op a bb) (hV : RV kf b ms rs) (hm : MB (absN b) m) {y : Nat → Int32} (h2 : R6 y m) (d1 d2 : Nat → Int32) (e3 e4 e5 e6 e7 e8 : Int32) (y45 : Nat → Int32) :
    ∃ u, f_X12_endOtherwise (nI w1) (nI w2) kf b op a bb lo d1 d2 e3 e4 e5 e6 e7 e8 y y45 = some u ∧ u.1 = (if othB (RUN n1 P1 kf b 2000 m 0) (RUN n2 P2 kf b 2000 m 0) = true then 1 else 0) := by
  obtain ⟨g1, p1, t1, t2⟩ := m_runsF hw1 hn1 hlo1 hwf1 hp1 hM1 hV hm h2 d1 d2 e3 e4 e5 e6 e7 e8
  unfold f_X12_endOtherwise g_X12_endOtherwise_0
  rw [t1, Option.bind_some]
  dsimp only
  have e13 := m_endO13 (kf := kf) (b := b) (op := op) (a := a) (bb := bb) (lo := lo) (y43 := y) (nI w2) (nI (RUN n1 P1 kf b 2000 m 0).2.2.2) (cpI 0 y d1) g1 (nI p1) (nI (RUN n1 P1 kf b 2000 m 0).2.1) (nI (RUN n1 P1 kf b 2000 m 0).1.2.1) (nI (RUN n1 P1 kf b 2000 m 0).1.2.2.1) (nI (RUN n1 P1 kf b 2000 m 0).1.2.2.2) (nI (RUN n1 P1 kf b 2000 m 0).2.2.2) FU 0 y45 (by omega) (by unfold FU; omega)
  have e13' : g_X12_endOtherwise_13 FU (nI w2) (nI (RUN n1 P1 kf b 2000 m 0).2.2.2) 0 kf b op a bb lo (cpI 0 y d1) g1 (nI p1) (nI (RUN n1 P1 kf b 2000 m 0).2.1) (nI (RUN n1 P1 kf b 2000 m 0).1.2.1) (nI (RUN n1 P1 kf b 2000 m 0).1.2.2.1) (nI (RUN n1 P1 kf b 2000 m 0).1.2.2.2) (nI (RUN n1 P1 kf b 2000 m 0).2.2.2) y y45 = _ := e13
  rw [e13']
  obtain ⟨g2, p2, t3, t4⟩ := m_runsF hw2 hn2 hlo2 hwf2 hp2 hM2 hV hm h2 (cpI 0 y d1) g1 (nI p1) (nI (RUN n1 P1 kf b 2000 m 0).2.1) (nI (RUN n1 P1 kf b 2000 m 0).1.2.1) (nI (RUN n1 P1 kf b 2000 m 0).1.2.2.1) (nI (RUN n1 P1 kf b 2000 m 0).1.2.2.2) (nI (RUN n1 P1 kf b 2000 m 0).2.2.2)
  rw [t3, Option.bind_some]
  dsimp only
  have fin : ∀ t : Bool, (t = false ↔ nI (RUN n1 P1 kf b 2000 m 0).2.2.2 = nI (RUN n2 P2 kf b 2000 m 0).2.2.2) → ∃ u, g_X12_endOtherwise_63 FU (if t = true then 1 else 0) 0 kf b op a bb lo (cpI 0 y (cpI 0 y d1)) g2 (nI p2) (nI (RUN n2 P2 kf b 2000 m 0).2.1) (nI (RUN n2 P2 kf b 2000 m 0).1.2.1) (nI (RUN n2 P2 kf b 2000 m 0).1.2.2.1) (nI (RUN n2 P2 kf b 2000 m 0).1.2.2.2) (nI (RUN n2 P2 kf b 2000 m 0).2.2.2) y (cpI 0 g1 y45) = some u ∧ u.1 = (if othB (RUN n1 P1 kf b 2000 m 0) (RUN n2 P2 kf b 2000 m 0) = true then 1 else 0) := by
    intro t ht
    obtain ⟨t', q1, q2⟩ := m_endO63 (kf := kf) (b := b) (op := op) (a := a) (bb := bb) (lo := lo) (y43 := y) (cpI 0 y (cpI 0 y d1)) g2 (nI p2) (nI (RUN n2 P2 kf b 2000 m 0).2.1) (nI (RUN n2 P2 kf b 2000 m 0).1.2.1) (nI (RUN n2 P2 kf b 2000 m 0).1.2.2.1) (nI (RUN n2 P2 kf b 2000 m 0).1.2.2.2) (nI (RUN n2 P2 kf b 2000 m 0).2.2.2) (cpI 0 g1 y45) FU 0 t (by omega) (by unfold FU; omega)
    refine ⟨_, q1, ?_⟩
    have : t' = othB (RUN n1 P1 kf b 2000 m 0) (RUN n2 P2 kf b 2000 m 0) := by
      have hiff : t' = false ↔ othB (RUN n1 P1 kf b 2000 m 0) (RUN n2 P2 kf b 2000 m 0) = false := by
        rw [q2, othB_f, ht]
        refine ⟨fun h => ⟨h.1, fun j hj => ?_⟩, fun h => ⟨h.1, fun j _ hj => ?_⟩⟩
        · rw [← t2 j hj, ← t4 j hj]
          have := h.2 j (Nat.zero_le _) hj
          rw [cpI_lt hj] at this
          exact this
        · rw [cpI_lt hj, t2 j hj, t4 j hj]; exact h.2 j hj
      cases t' with
      | false => exact (hiff.mp rfl).symm
      | true =>
        cases ho : othB (RUN n1 P1 kf b 2000 m 0) (RUN n2 P2 kf b 2000 m 0) with
        | false => exact absurd (hiff.mpr ho) (by decide)
        | true => rfl
    show (if t' = true then (1 : Int32) else 0) = _
    rw [this]
  by_cases h : nI (RUN n1 P1 kf b 2000 m 0).2.2.2 = nI (RUN n2 P2 kf b 2000 m 0).2.2.2
  · rw [if_pos h]
    exact fin false ⟨fun _ => h, fun _ => rfl⟩
  · rw [if_neg h]
    exact fin true ⟨fun x => absurd x (by decide), fun x => absurd x h⟩
section MALIKE
variable {C : Nat → Bool} {bnd : Nat} {B M : Nat → Nat} {p : (Nat → Nat) → Bool} {kf b : Nat → Int32}
theorem m_alike (hM : MB B M) (hbnd : bnd ≤ 20) {v5 : Int32} (hv : v5 = -1 ∨ ∃ k, k < 6 ∧ v5 = nI k) {msk wv wv2 : Int32} {ms op a bb lo : Nat → Int32} (hb : bitB msk C) (hB : R6 b B)
    (hp : ∀ m, InvB C bnd B M m → ∀ (y d1 d2 : Nat → Int32) (e3 e4 e5 e6 e7 e8 : Int32) (y45 : Nat → Int32), R6 y m → ∃ u1, f_X12_endOtherwise wv wv2 kf b op a bb lo d1 d2 e3 e4 e5 e6 e7 e8 y y45 = some u1 ∧ u1.1 = (if p m = true then 1 else 0)) :
    ∀ (fu r : Nat) (m : Nat → Nat) (c0 : Nat) (f : Nat → Nat) (y44 y d1 d2 : Nat → Int32) (e3 e4 e5 e6 e7 e8 : Int32) (y45 : Nat → Int32), r < fu → c0 + r < 90000 → InvB C bnd B M m → R6 y m → (0 < c0 → R6 y44 f) → (0 < r → rkB (waysB C bnd B) 6 m + r = prB (waysB C bnd B) 6) →
      ∃ u, g_X12_alike_45 fu wv wv2 msk (nI bnd) v5 (if r = 0 then 0 else 1) kf b ms op a bb lo d1 d2 e3 e4 e5 e6 e7 e8 y y44 y45 (nI c0) = some u ∧ u.1 = ansB v5 (walkB p (waysB C bnd B) r m c0 f) := by
  intro fu
  induction fu with
  | zero => intro r m c0 f y44 y d1 d2 e3 e4 e5 e6 e7 e8 y45 g1; omega
  | succ fu ih =>
    intro r m c0 f y44 y d1 d2 e3 e4 e5 e6 e7 e8 y45 g1 g2 hI hy hf hr
    simp only [g_X12_alike_45]
    cases r with
    | zero =>
      rw [if_pos (show (0 : Nat) = 0 from rfl), if_pos rfl]
      have this' : f_X12_tellsFound v5 y44 (nI c0) = some (ansB v5 (c0, f)) := m_tells hv y44 (c0, f) (by show c0 < _; omega) hf
      rw [this', Option.bind_some]
      exact ⟨_, rfl, rfl⟩
    | succ r =>
      rw [if_neg (show ¬ r + 1 = 0 by omega), if_neg (by decide)]
      obtain ⟨u1, q1, q3⟩ := hp m hI y d1 d2 e3 e4 e5 e6 e7 e8 y45 hy
      rw [q1, Option.bind_some, q3]
      have ew : walkB p (waysB C bnd B) (r + 1) m c0 f = walkB p (waysB C bnd B) r (nextB (waysB C bnd B) 6 m).2 (if p m = true then c0 + 1 else c0) (if p m = true ∧ c0 = 0 then m else f) := rfl
      rw [m_findsF _ _ _ (by omega), Option.bind_some]
      obtain ⟨y', n1, n2⟩ := m_goesN (C := C) (bnd := bnd) hb hB (fun j hj => (hM j hj).2) hbnd FU 6 y m (by omega) (by unfold FU; omega) hy (fun j hj hc => (hI.1 j (by omega)).1 hc) (InvB_1000 hI hM)
      have n1' : f_X12_goesToNext msk (nI bnd) b y = _ := n1
      obtain ⟨o1, o2⟩ := more_iff hI (r := r) (hr (by omega))
      rw [n1', Option.bind_some, o1, ew]
      have hc1 : (if p m = true then c0 + 1 else c0) ≤ c0 + 1 := by split <;> omega
      refine ih r _ _ _ _ y' _ _ _ _ _ _ _ _ _ (by omega) (by omega) (InvB_next hI) n2 (fun hc => ?_) o2
      by_cases h0 : p m = true ∧ c0 = 0
      · rw [if_pos h0, if_pos h0]; exact R6_cpI hy
      · rw [if_neg h0, if_neg h0]
        apply hf
        by_cases hpm : p m = true
        · rcases Nat.eq_zero_or_pos c0 with z | z
          · exact absurd ⟨hpm, z⟩ h0
          · exact z
        · rw [if_neg hpm] at hc; exact hc
end MALIKE
