/-! sum -/
def cpS (i v : Nat) (t y : Nat → Int32) (k : Nat) : Int32 := if 6 * i + v ≤ k ∧ k < 6 * i + 6 then t (k - 6 * i) else y k
theorem cpS_step {i v : Nat} (hv : v < 6) (t y : Nat → Int32) : cpS i (v + 1) t (upd y (6 * i + v) (t v)) = cpS i v t y := by
  funext k
  unfold cpS
  by_cases h : k = 6 * i + v
  · subst h
    rw [if_neg (by omega), upd_same, if_pos (by omega), show 6 * i + v - 6 * i = v by omega]
  · rw [upd_ne h]
    by_cases h2 : 6 * i + (v + 1) ≤ k ∧ k < 6 * i + 6
    · rw [if_pos h2, if_pos (by omega)]
    · rw [if_neg h2, if_neg (by omega)]
theorem cpS_6 (i : Nat) (t y : Nat → Int32) : cpS i 6 t y = y := by funext k; exact if_neg (by omega)
theorem cpS_va (i : Nat) (hi : i < 8) (t g y : Nat → Int32) (ht : ∀ j, j < 6 → g j = t j) : va_cpy g y (0 : Int32).toNatClampNeg (nI i * 6).toNatClampNeg (6 : Int32).toNatClampNeg = cpS i 0 t y := by
  have e : nI i * 6 = nI (6 * i) := by rw [show (6 : Int32) = nI 6 from rfl, pk_mul, Nat.mul_comm]
  rw [e, nc _ (by omega)]
  funext k
  show (if 6 * i ≤ k ∧ k < 6 * i + 6 then g (0 + (k - 6 * i)) else y k) = (if 6 * i + 0 ≤ k ∧ k < 6 * i + 6 then t (k - 6 * i) else y k)
  by_cases h : 6 * i ≤ k ∧ k < 6 * i + 6
  · rw [if_pos h, if_pos (by omega), Nat.zero_add, ht _ (by omega)]
  · rw [if_neg h, if_neg (by omega)]
theorem or_told : ∀ k, k < 256 → ∀ i, i < 8 → (0 : Int32) ≤ nI k ||| (1 <<< (nI i &&& 31)) ∧ nI k ||| (1 <<< (nI i &&& 31)) ≤ 255 := by decide +kernel
section MSUM
variable {i : Nat} {v2 v3 v4 x8 x55 : Int32} {y4 y5 t y25 y26 y27 y28 y35 y36 y43 y56 y57 y58 : Nat → Int32} {x37 x38 x39 x40 x41 x42 : Int32}
theorem m_sum93 (hi : i < 8) : ∀ (fu v : Nat) (y59 : Nat → Int32), v ≤ 6 → 7 ≤ fu + v → g_X12_sum_93 fu (nI i) v2 v3 v4 (nI v) y4 y5 t x8 y25 y26 y27 y28 y35 y36 x37 x38 x39 x40 x41 x42 y43 x55 y56 y57 y58 y59 = (f_X12_takesNow (nI i) y4 y5 y25 y26 y27 y28 y35 y36 x37 x38 x39 x40 x41 x42 y43 (upd y56 i v2) (cpS i v t y59)).bind (fun u2 => some (u2.1, x8, u2.2.1, u2.2.2.1, u2.2.2.2.1, u2.2.2.2.2.1, u2.2.2.2.2.2.1, u2.2.2.2.2.2.2.1, u2.2.2.2.2.2.2.2.1, u2.2.2.2.2.2.2.2.2.1, u2.2.2.2.2.2.2.2.2.2, (x55 ||| (1 <<< (nI i &&& 31))), (upd y56 i v2), (upd y57 i v3), (upd y58 i v4), cpS i v t y59)) := by
  intro fu
  induction fu with
  | zero => intro v y59 h1 h2; omega
  | succ fu ih =>
    intro v y59 h1 h2
    simp only [g_X12_sum_93]
    rcases Nat.lt_or_ge v 6 with hv | hv
    · have e : 6 * nI i + nI v = nI (6 * i + v) := by rw [show (6 : Int32) = nI 6 from rfl, pk_mul, nI_add]
      rw [if_neg (c6_le hv), if_pos (vin_nI (by omega) (by omega)), e, if_pos (vin_nI (by omega) (by omega)), nc v (by omega), nc _ (by omega), nI_s, ih (v + 1) _ (by omega) (by omega), cpS_step hv]
    · have hv6 : v = 6 := by omega
      subst hv6
      rw [if_pos c6_ge, if_pos (vin_nI hi (by omega)), nc i (by omega), cpS_6]
theorem m_sum58 (y59 : Nat → Int32) : ∀ (fu v : Nat), v ≤ 6 → 7 ≤ fu + v → ((∀ j, v ≤ j → j < 6 → inR 0 99 (t j)) → g_X12_sum_58 fu (nI i) v2 v3 v4 (nI v) y4 y5 t x8 y25 y26 y27 y28 y35 y36 x37 x38 x39 x40 x41 x42 y43 x55 y56 y57 y58 y59 = g_X12_sum_93 FU (nI i) v2 v3 v4 0 y4 y5 t x8 y25 y26 y27 y28 y35 y36 x37 x38 x39 x40 x41 x42 y43 x55 y56 y57 y58 y59) ∧ ((¬ ∀ j, v ≤ j → j < 6 → inR 0 99 (t j)) → g_X12_sum_58 fu (nI i) v2 v3 v4 (nI v) y4 y5 t x8 y25 y26 y27 y28 y35 y36 x37 x38 x39 x40 x41 x42 y43 x55 y56 y57 y58 y59 = some (-2, x8, y35, y36, x37, x38, x39, x40, x41, x42, y43, x55, y56, y57, y58, y59)) := by
  intro fu
  induction fu with
  | zero => intro v h1 h2; omega
  | succ fu ih =>
    intro v h1 h2
    simp only [g_X12_sum_58]
    rcases Nat.lt_or_ge v 6 with hv | hv
    · rw [if_neg (c6_le hv), if_pos (vin_nI (by omega) (by omega)), nc v (by omega), m_in, Option.bind_some, nI_s]
      obtain ⟨q1, q2⟩ := ih (v + 1) (by omega) (by omega)
      by_cases h : (0 : Int32) ≤ t v ∧ t v ≤ 99
      · rw [if_pos h, if_neg (by decide)]
        refine ⟨fun hh => q1 (fun j hj hj6 => hh j (by omega) hj6), fun hh => q2 (fun hj => hh (fun j hj1 hj6 => ?_))⟩
        rcases Nat.lt_or_ge v j with q | q
        · exact hj j q hj6
        · rw [show j = v by omega]; exact h
      · rw [if_neg h, if_pos rfl]
        exact ⟨fun hh => absurd (hh v (Nat.le_refl _) hv) h, fun _ => rfl⟩
    · have hv6 : v = 6 := by omega
      subst hv6
      rw [if_pos c6_ge]
      exact ⟨fun _ => rfl, fun hh => absurd (fun j h3 h4 => absurd h4 (by omega)) hh⟩
end MSUM
theorem ok_sum : Ok_sum Rel := by
  intro S T s1 s2 s3 s4 hR
  obtain ⟨⟨t1, t2, ⟨tn, tn1, tn2⟩, t4⟩, ⟨v1, v2, v3, vb⟩, ⟨r0, r1, r2⟩, hs, hp, ⟨m1, m2, m3, m4, m5, m6, m7⟩, hb, hk⟩ := hR
  unfold f_X11_sum g_X11_sum_0 f_X12_sum g_X12_sum_0
  simp only [w_in, m_in, x_isRecipe, m_isRecipe, Option.bind_some, t2, t1, m1, m2, m3, m4, m5]
  have same : Rel (stX_sum S (-1, (S 10).2 1, (S 10).2 2, (S 10).1 3, (S 10).1 4, (S 10).1 5, (S 10).1 6, (S 10).1 7, (S 10).1 8, (S 10).2 9, (S 10).1 10, (S 10).1 11, (S 10).1 12, (S 10).1 13, (S 10).1 14, (S 15).2 2, T.2.1 56, T.2.1 57, T.2.1 58, T.2.1 59, (S 15).2 7, (S 15).2 8, T.1 55, T.1 8)) (stM_sum T (-1, T.1 8, T.2.1 35, T.2.1 36, T.1 37, T.1 38, T.1 39, T.1 40, T.1 41, T.1 42, T.2.1 43, T.1 55, T.2.1 56, T.2.1 57, T.2.1 58, T.2.1 59)) := ⟨⟨t1, rfl, ⟨tn, tn1, tn2⟩, t4⟩, ⟨v1, v2, v3, vb⟩, ⟨r0, r1, r2⟩, hs, hp, ⟨rfl, rfl, rfl, rfl, rfl, m6, m7⟩, hb, hk⟩
  by_cases h1 : (0 : Int32) ≤ s1 ∧ s1 ≤ 7
  · simp only [if_pos h1, if_neg (show ¬ (1 : Int32) = 0 by decide)]
    by_cases h2 : (0 : Int32) ≤ s2 ∧ s2 ≤ 2
    · simp only [if_pos h2, if_neg (show ¬ (1 : Int32) = 0 by decide)]
      by_cases h3 : (0 : Int32) ≤ s3 ∧ s3 ≤ 9999
      · simp only [if_pos h3, if_neg (show ¬ (1 : Int32) = 0 by decide)]
        by_cases h4 : (0 : Int32) ≤ s4 ∧ s4 ≤ 99
        · simp only [if_pos h4, if_neg (show ¬ (1 : Int32) = 0 by decide)]
          by_cases h5 : (6 : Int32) ≤ T.1 8
          · simp only [if_pos h5]
            obtain ⟨i, hi, rfl⟩ := of_rng (x := s1) (n := 7) (by omega) h1.1 h1.2
            obtain ⟨w, hw, rfl⟩ := of_rng (x := s2) (n := 2) (by omega) h2.1 h2.2
            have hc : f_X9_clear (T.1 8) = some 0 := rfl
            rw [x_takeMF, Option.bind_some, hc, Option.bind_some]
            obtain ⟨o1, o2⟩ := x_offerF (T.2.1 7) ((S 15).2 2) t4
            obtain ⟨n1, n2⟩ := m_sum58 (i := i) (v2 := nI w) (v3 := s3) (v4 := s4) (x8 := 0) (x55 := T.1 55) (y4 := T.2.1 4) (y5 := T.2.1 5) (t := T.2.1 7) (y25 := T.2.1 25) (y26 := T.2.1 26) (y27 := T.2.1 27) (y28 := T.2.1 28) (y35 := T.2.1 35) (y36 := T.2.1 36) (y43 := T.2.1 43) (y56 := T.2.1 56) (y57 := T.2.1 57) (y58 := T.2.1 58) (x37 := T.1 37) (x38 := T.1 38) (x39 := T.1 39) (x40 := T.1 40) (x41 := T.1 41) (x42 := T.1 42) (T.2.1 59) FU 0 (by omega) (by unfold FU; omega)
            by_cases hg : goodT (T.2.1 7)
            · rw [o1 hg, Option.bind_some, if_neg (by decide)]
              have n1' : g_X12_sum_58 FU (nI i) (nI w) s3 s4 0 (T.2.1 4) (T.2.1 5) (T.2.1 7) 0 (T.2.1 25) (T.2.1 26) (T.2.1 27) (T.2.1 28) (T.2.1 35) (T.2.1 36) (T.1 37) (T.1 38) (T.1 39) (T.1 40) (T.1 41) (T.1 42) (T.2.1 43) (T.1 55) (T.2.1 56) (T.2.1 57) (T.2.1 58) (T.2.1 59) = _ := n1 (fun j _ hj => hg j hj)
              have e93 : g_X12_sum_93 FU (nI i) (nI w) s3 s4 0 (T.2.1 4) (T.2.1 5) (T.2.1 7) 0 (T.2.1 25) (T.2.1 26) (T.2.1 27) (T.2.1 28) (T.2.1 35) (T.2.1 36) (T.1 37) (T.1 38) (T.1 39) (T.1 40) (T.1 41) (T.1 42) (T.2.1 43) (T.1 55) (T.2.1 56) (T.2.1 57) (T.2.1 58) (T.2.1 59) = _ := m_sum93 (show i < 8 by omega) FU 0 (T.2.1 59) (by omega) (by unfold FU; omega)
              rw [n1', e93]
              have ecp : cpk 0 (nI i * 6) 6 6 48 = true := by
                have e : nI i * 6 = nI (6 * i) := by rw [show (6 : Int32) = nI 6 from rfl, pk_mul, Nat.mul_comm]
                rcases (show i = 0 ∨ i = 1 ∨ i = 2 ∨ i = 3 ∨ i = 4 ∨ i = 5 ∨ i = 6 ∨ i = 7 by omega) with rfl | rfl | rfl | rfl | rfl | rfl | rfl | rfl <;> decide
              unfold f_X2_take g_X2_take_0
              rw [if_pos (vin_nI (by omega) (by omega)), ecp, if_pos rfl, Option.bind_some, nc i (by omega), cpS_va i (by omega) (T.2.1 7) _ _ (fun j hj => by
                rw [cpI_lt hj]
                show T.2.1 7 j &&& 255 = T.2.1 7 j
                rcases byt_cases (t4 j) with q | q
                · exact q.2
                · exact absurd (hg j hj).1 q.1)]
              dsimp only
              have hm59 : ∀ j, inR 0 99 (cpS i 0 (T.2.1 7) (T.2.1 59) j) := by
                intro j
                unfold cpS
                by_cases h : 6 * i + 0 ≤ j ∧ j < 6 * i + 6
                · rw [if_pos h]; exact hg _ (by omega)
                · rw [if_neg h]; exact (m7 j).2.2.2
              have hrel : ∀ (r : Int32) (ux : (Nat → Int32) × (Nat → Int32) × Int32 × Int32 × Int32 × Int32 × Int32 × Int32 × (Nat → Int32) × Int32 × Int32 × Int32 × Int32 × Int32) (g7 g8 g5 : Nat → Int32) (um : (Nat → Int32) × (Nat → Int32) × Int32 × Int32 × Int32 × Int32 × Int32 × Int32 × (Nat → Int32)), Rel (stX_sum S (r, ux.1, ux.2.1, ux.2.2.1, ux.2.2.2.1, ux.2.2.2.2.1, ux.2.2.2.2.2.1, ux.2.2.2.2.2.2.1, ux.2.2.2.2.2.2.2.1, ux.2.2.2.2.2.2.2.2.1, ux.2.2.2.2.2.2.2.2.2.1, ux.2.2.2.2.2.2.2.2.2.2.1, ux.2.2.2.2.2.2.2.2.2.2.2.1, ux.2.2.2.2.2.2.2.2.2.2.2.2.1, ux.2.2.2.2.2.2.2.2.2.2.2.2.2, g5, upd (T.2.1 56) i (nI w), upd (T.2.1 57) i s3, upd (T.2.1 58) i s4, cpS i 0 (T.2.1 7) (T.2.1 59), g7, g8, (T.1 55 ||| (1 <<< (nI i &&& 31))), 0)) (stM_sum T (r, 0, um.1, um.2.1, um.2.2.1, um.2.2.2.1, um.2.2.2.2.1, um.2.2.2.2.2.1, um.2.2.2.2.2.2.1, um.2.2.2.2.2.2.2.1, um.2.2.2.2.2.2.2.2, (T.1 55 ||| (1 <<< (nI i &&& 31))), upd (T.2.1 56) i (nI w), upd (T.2.1 57) i s3, upd (T.2.1 58) i s4, cpS i 0 (T.2.1 7) (T.2.1 59))) := by
                intro r ux g7 g8 g5 um
                obtain ⟨k, hk2, ek⟩ := of_rng (x := T.1 55) (n := 255) (by omega) m6.1 m6.2
                refine ⟨⟨t1, rfl, ⟨0, by omega, rfl⟩, t4⟩, ⟨v1, v2, v3, vb⟩, ⟨r0, r1, r2⟩, hs, hp, ⟨rfl, rfl, rfl, rfl, rfl, ?_, fun j => ⟨?_, ?_, ?_, hm59 j⟩⟩, hb, hk⟩
                · show inR 0 255 (T.1 55 ||| (1 <<< (nI i &&& 31)))
                  rw [ek]
                  exact or_told k (by omega) i (by omega)
                · show inR 0 2 (upd (T.2.1 56) i (nI w) j)
                  by_cases h : j = i
                  · subst h; rw [upd_same]; exact h2
                  · rw [upd_ne h]; exact (m7 j).1
                · show inR 0 9999 (upd (T.2.1 57) i s3 j)
                  by_cases h : j = i
                  · subst h; rw [upd_same]; exact h3
                  · rw [upd_ne h]; exact (m7 j).2.1
                · show inR 0 99 (upd (T.2.1 58) i s4 j)
                  by_cases h : j = i
                  · subst h; rw [upd_same]; exact h4
                  · rw [upd_ne h]; exact (m7 j).2.2.1
              rw [v1, v2]
              have key : ∀ {c fi se nx ot : Nat → Int32} {sz ac : Int32}, RR w c fi se nx ot sz ac (T.2.1 25) (T.2.1 26) (T.2.1 27) (T.2.1 28) (T.2.1 29) → ∃ r : Int32, (∃ u, f_X2_stepsOf (nI i) (cpS i 0 (T.2.1 7) (T.2.1 59)) ((S 15).2 7) ((S 15).2 8) c fi se nx ot sz ((S 10).2 1) ((S 10).2 2) ((S 10).1 3) ((S 10).1 4) ((S 10).1 5) ((S 10).1 6) ((S 10).1 7) ((S 10).1 8) ((S 10).2 9) ((S 10).1 10) ((S 10).1 11) ((S 10).1 12) ((S 10).1 13) ((S 10).1 14) (T.2.1 4) (T.2.1 5) ((S 2).1 3) = some u ∧ u.1 = r) ∧ (∃ u, f_X12_takesNow (nI i) (T.2.1 4) (T.2.1 5) (T.2.1 25) (T.2.1 26) (T.2.1 27) (T.2.1 28) (T.2.1 35) (T.2.1 36) (T.1 37) (T.1 38) (T.1 39) (T.1 40) (T.1 41) (T.1 42) (T.2.1 43) (upd (T.2.1 56) i (nI w)) (cpS i 0 (T.2.1 7) (T.2.1 59)) = some u ∧ u.1 = r) := by
                intro c fi se nx ot sz ac hRR
                obtain ⟨n, P, hn, e1, e2, -, hwf, hp0, hX, hMo⟩ := hRR
                subst e1
                obtain ⟨u, z1, z2, -⟩ := x_stepsOf hn hwf hp0 hX vb (show i < 8 by omega) hm59 ((S 15).2 8) ((S 10).2 1) ((S 10).2 2) ((S 10).1 3) ((S 10).1 4) ((S 10).1 5) ((S 10).1 6) ((S 10).1 7) ((S 10).1 8) ((S 10).2 9) ((S 10).1 10) ((S 10).1 11) ((S 10).1 12) ((S 10).1 13) ((S 10).1 14) FU 0 ((S 15).2 7) (by omega) (by unfold FU; omega) (fun j hj => absurd hj (by omega))
                obtain ⟨u', z3, z4⟩ := m_takesNow (y56 := upd (T.2.1 56) i (nI w)) (show w < 3 by omega) hn e2 hwf hp0 hMo vb (show i < 8 by omega) hm59 (upd_same _ _ _) (T.2.1 35) (T.2.1 36) (T.1 37) (T.1 38) (T.1 39) (T.1 40) (T.1 41) (T.1 42) FU 0 (T.2.1 43) (by omega) (by unfold FU; omega) (fun j hj => absurd hj (by omega))
                exact ⟨_, ⟨u, z1, z2⟩, u', z3, z4⟩
              rcases (show w = 0 ∨ w = 1 ∨ w = 2 by omega) with rfl | rfl | rfl
              · obtain ⟨r, ⟨u, z1, z2⟩, u', z3, z4⟩ := key r0
                rw [if_pos (show nI 0 = 0 from rfl), z1, Option.bind_some, z3, Option.bind_some]
                refine ⟨_, _, rfl, rfl, z2.trans z4.symm, ?_⟩
                rw [z2, z4]
                exact hrel r u.2.2.2 u.2.1 u.2.2.1 _ u'.2
              · obtain ⟨r, ⟨u, z1, z2⟩, u', z3, z4⟩ := key r1
                rw [if_neg (show ¬ nI 1 = 0 by decide), if_pos (show nI 1 = 1 from rfl), z1, Option.bind_some, z3, Option.bind_some]
                refine ⟨_, _, rfl, rfl, z2.trans z4.symm, ?_⟩
                rw [z2, z4]
                exact hrel r u.2.2.2 u.2.1 u.2.2.1 _ u'.2
              · obtain ⟨r, ⟨u, z1, z2⟩, u', z3, z4⟩ := key r2
                rw [if_neg (show ¬ nI 2 = 0 by decide), if_neg (show ¬ nI 2 = 1 by decide), if_pos (show nI 2 = 2 from rfl), z1, Option.bind_some, z3, Option.bind_some]
                refine ⟨_, _, rfl, rfl, z2.trans z4.symm, ?_⟩
                rw [z2, z4]
                exact hrel r u.2.2.2 u.2.1 u.2.2.1 _ u'.2
            · rw [o2 hg, Option.bind_some, if_pos rfl]
              have n2' : g_X12_sum_58 FU (nI i) (nI w) s3 s4 0 (T.2.1 4) (T.2.1 5) (T.2.1 7) 0 (T.2.1 25) (T.2.1 26) (T.2.1 27) (T.2.1 28) (T.2.1 35) (T.2.1 36) (T.1 37) (T.1 38) (T.1 39) (T.1 40) (T.1 41) (T.1 42) (T.2.1 43) (T.1 55) (T.2.1 56) (T.2.1 57) (T.2.1 58) (T.2.1 59) = _ := n2 (fun hh => hg (fun j hj => hh j (Nat.zero_le _) hj))
              rw [n2']
              exact ⟨_, _, rfl, rfl, rfl, ⟨t1, rfl, ⟨0, by omega, rfl⟩, t4⟩, ⟨v1, v2, v3, vb⟩, ⟨r0, r1, r2⟩, hs, hp, ⟨rfl, rfl, rfl, rfl, rfl, m6, m7⟩, hb, hk⟩
          · simp only [if_neg h5]
            exact ⟨_, _, rfl, rfl, rfl, same⟩
        · simp only [if_neg h4, if_true, ite_self]
          exact ⟨_, _, rfl, rfl, rfl, same⟩
      · simp only [if_neg h3, if_true, ite_self]
        exact ⟨_, _, rfl, rfl, rfl, same⟩
    · simp only [if_neg h2, if_true]
      exact ⟨_, _, rfl, rfl, rfl, same⟩
  · simp only [if_neg h1, if_true]
    exact ⟨_, _, rfl, rfl, rfl, same⟩
