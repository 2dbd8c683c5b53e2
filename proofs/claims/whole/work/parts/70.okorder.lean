theorem steps_ex {S : XS} {T : MS} (r0 : RR 0 ((S 3).2 0) ((S 3).2 1) ((S 3).2 2) ((S 3).2 3) ((S 3).2 4) ((S 3).1 5) ((S 3).1 6) (T.2.1 25) (T.2.1 26) (T.2.1 27) (T.2.1 28) (T.2.1 29)) (r1 : RR 1 ((S 4).2 0) ((S 4).2 1) ((S 4).2 2) ((S 4).2 3) ((S 4).2 4) ((S 4).1 5) ((S 4).1 6) (T.2.1 25) (T.2.1 26) (T.2.1 27) (T.2.1 28) (T.2.1 29)) (r2 : RR 2 ((S 5).2 0) ((S 5).2 1) ((S 5).2 2) ((S 5).2 3) ((S 5).2 4) ((S 5).1 5) ((S 5).1 6) (T.2.1 25) (T.2.1 26) (T.2.1 27) (T.2.1 28) (T.2.1 29)) (vb : RV (T.2.1 4) (T.2.1 5) (T.2.1 6) ((S 2).1 3)) (m7 : ∀ j, inR 0 2 (T.2.1 56 j) ∧ inR 0 9999 (T.2.1 57 j) ∧ inR 0 99 (T.2.1 58 j) ∧ inR 0 99 (T.2.1 59 j)) (i : Nat) : ∃ ti : Nat, i < 8 → ti ≤ 1000 ∧ (∀ (y7 y8 : Nat → Int32) (d1 d2 : Nat → Int32) (e3 e4 e5 e6 e7 e8 : Int32) (mk : Nat → Int32) (x10 x11 x12 x13 x14 : Int32), T.2.1 56 i = 0 → ∃ u, f_X2_stepsOf (nI i) (T.2.1 59) y7 y8 ((S 3).2 0) ((S 3).2 1) ((S 3).2 2) ((S 3).2 3) ((S 3).2 4) ((S 3).1 5) d1 d2 e3 e4 e5 e6 e7 e8 mk x10 x11 x12 x13 x14 (T.2.1 4) (T.2.1 5) ((S 2).1 3) = some u ∧ u.2.2.1 = upd y8 i (nI ti)) ∧ (∀ (y7 y8 : Nat → Int32) (d1 d2 : Nat → Int32) (e3 e4 e5 e6 e7 e8 : Int32) (mk : Nat → Int32) (x10 x11 x12 x13 x14 : Int32), T.2.1 56 i = 1 → ∃ u, f_X2_stepsOf (nI i) (T.2.1 59) y7 y8 ((S 4).2 0) ((S 4).2 1) ((S 4).2 2) ((S 4).2 3) ((S 4).2 4) ((S 4).1 5) d1 d2 e3 e4 e5 e6 e7 e8 mk x10 x11 x12 x13 x14 (T.2.1 4) (T.2.1 5) ((S 2).1 3) = some u ∧ u.2.2.1 = upd y8 i (nI ti)) ∧ (∀ (y7 y8 : Nat → Int32) (d1 d2 : Nat → Int32) (e3 e4 e5 e6 e7 e8 : Int32) (mk : Nat → Int32) (x10 x11 x12 x13 x14 : Int32), T.2.1 56 i = 2 → ∃ u, f_X2_stepsOf (nI i) (T.2.1 59) y7 y8 ((S 5).2 0) ((S 5).2 1) ((S 5).2 2) ((S 5).2 3) ((S 5).2 4) ((S 5).1 5) d1 d2 e3 e4 e5 e6 e7 e8 mk x10 x11 x12 x13 x14 (T.2.1 4) (T.2.1 5) ((S 2).1 3) = some u ∧ u.2.2.1 = upd y8 i (nI ti)) ∧ (∀ (d1 d2 : Nat → Int32) (e3 e4 e5 e6 e7 e8 : Int32) (y43 : Nat → Int32), ∃ u, f_X12_takesNow (nI i) (T.2.1 4) (T.2.1 5) (T.2.1 25) (T.2.1 26) (T.2.1 27) (T.2.1 28) d1 d2 e3 e4 e5 e6 e7 e8 y43 (T.2.1 56) (T.2.1 59) = some u ∧ u.1 = nI ti) := by
  by_cases hi : i < 8
  · have h59 : ∀ j, inR 0 99 (T.2.1 59 j) := fun j => (m7 j).2.2.2
    have key : ∀ {w : Nat} (hw : w < 3) {c fi se nx ot : Nat → Int32} {sz ac : Int32}, RR w c fi se nx ot sz ac (T.2.1 25) (T.2.1 26) (T.2.1 27) (T.2.1 28) (T.2.1 29) → T.2.1 56 i = nI w → ∃ ti : Nat, ti ≤ 1000 ∧ (∀ (y7 y8 : Nat → Int32) (d1 d2 : Nat → Int32) (e3 e4 e5 e6 e7 e8 : Int32) (mk : Nat → Int32) (x10 x11 x12 x13 x14 : Int32), ∃ u, f_X2_stepsOf (nI i) (T.2.1 59) y7 y8 c fi se nx ot sz d1 d2 e3 e4 e5 e6 e7 e8 mk x10 x11 x12 x13 x14 (T.2.1 4) (T.2.1 5) ((S 2).1 3) = some u ∧ u.2.2.1 = upd y8 i (nI ti)) ∧ (∀ (d1 d2 : Nat → Int32) (e3 e4 e5 e6 e7 e8 : Int32) (y43 : Nat → Int32), ∃ u, f_X12_takesNow (nI i) (T.2.1 4) (T.2.1 5) (T.2.1 25) (T.2.1 26) (T.2.1 27) (T.2.1 28) d1 d2 e3 e4 e5 e6 e7 e8 y43 (T.2.1 56) (T.2.1 59) = some u ∧ u.1 = nI ti) := by
      intro w hw c fi se nx ot sz ac hRR h56
      obtain ⟨n, P, hn, e1, e2, -, hwf, hp0, hX, hMo⟩ := hRR
      subst e1
      refine ⟨(RUN n P (T.2.1 4) (T.2.1 5) 1000 (mmN i (T.2.1 59) (T.2.1 5)) 0).2.1, RUN_st hwf hp0 vb, fun y7 y8 d1 d2 e3 e4 e5 e6 e7 e8 mk x10 x11 x12 x13 x14 => ?_, fun d1 d2 e3 e4 e5 e6 e7 e8 y43 => ?_⟩
      · obtain ⟨u, z1, -, z2⟩ := x_stepsOf hn hwf hp0 hX vb hi h59 y8 d1 d2 e3 e4 e5 e6 e7 e8 mk x10 x11 x12 x13 x14 FU 0 y7 (by omega) (by unfold FU; omega) (fun j hj => absurd hj (by omega))
        exact ⟨u, z1, z2⟩
      · obtain ⟨u', z3, z4⟩ := m_takesNow hw hn e2 hwf hp0 hMo vb hi h59 h56 d1 d2 e3 e4 e5 e6 e7 e8 FU 0 y43 (by omega) (by unfold FU; omega) (fun j hj => absurd hj (by omega))
        exact ⟨u', z3, z4⟩
    obtain ⟨k, hk, ek⟩ := of_rng (x := T.2.1 56 i) (n := 2) (by omega) (m7 i).1.1 (m7 i).1.2
    rcases (show k = 0 ∨ k = 1 ∨ k = 2 by omega) with rfl | rfl | rfl
    · obtain ⟨ti, q1, q2, q3⟩ := key (w := 0) (by omega) r0 ek
      exact ⟨ti, fun _ => ⟨q1, fun y7 y8 d1 d2 e3 e4 e5 e6 e7 e8 mk x10 x11 x12 x13 x14 _ => q2 y7 y8 d1 d2 e3 e4 e5 e6 e7 e8 mk x10 x11 x12 x13 x14, fun y7 y8 d1 d2 e3 e4 e5 e6 e7 e8 mk x10 x11 x12 x13 x14 h => absurd (ek.symm.trans h) (by decide), fun y7 y8 d1 d2 e3 e4 e5 e6 e7 e8 mk x10 x11 x12 x13 x14 h => absurd (ek.symm.trans h) (by decide), q3⟩⟩
    · obtain ⟨ti, q1, q2, q3⟩ := key (w := 1) (by omega) r1 ek
      exact ⟨ti, fun _ => ⟨q1, fun y7 y8 d1 d2 e3 e4 e5 e6 e7 e8 mk x10 x11 x12 x13 x14 h => absurd (ek.symm.trans h) (by decide), fun y7 y8 d1 d2 e3 e4 e5 e6 e7 e8 mk x10 x11 x12 x13 x14 _ => q2 y7 y8 d1 d2 e3 e4 e5 e6 e7 e8 mk x10 x11 x12 x13 x14, fun y7 y8 d1 d2 e3 e4 e5 e6 e7 e8 mk x10 x11 x12 x13 x14 h => absurd (ek.symm.trans h) (by decide), q3⟩⟩
    · obtain ⟨ti, q1, q2, q3⟩ := key (w := 2) (by omega) r2 ek
      exact ⟨ti, fun _ => ⟨q1, fun y7 y8 d1 d2 e3 e4 e5 e6 e7 e8 mk x10 x11 x12 x13 x14 h => absurd (ek.symm.trans h) (by decide), fun y7 y8 d1 d2 e3 e4 e5 e6 e7 e8 mk x10 x11 x12 x13 x14 h => absurd (ek.symm.trans h) (by decide), fun y7 y8 d1 d2 e3 e4 e5 e6 e7 e8 mk x10 x11 x12 x13 x14 _ => q2 y7 y8 d1 d2 e3 e4 e5 e6 e7 e8 mk x10 x11 x12 x13 x14, q3⟩⟩
  · exact ⟨0, fun h => absurd h hi⟩
theorem x_order46 {S : XS} {T : MS} {sm : Nat} {v2 : Int32} {y9 : Nat → Int32} {x10' : Int32} {t : Nat → Nat} (h56 : ∀ j, inR 0 2 (T.2.1 56 j)) (ht : ∀ i, i < 8 → (t i) ≤ 1000 ∧ (∀ (y7 y8 : Nat → Int32) (d1 d2 : Nat → Int32) (e3 e4 e5 e6 e7 e8 : Int32) (mk : Nat → Int32) (x10 x11 x12 x13 x14 : Int32), T.2.1 56 i = 0 → ∃ u, f_X2_stepsOf (nI i) (T.2.1 59) y7 y8 ((S 3).2 0) ((S 3).2 1) ((S 3).2 2) ((S 3).2 3) ((S 3).2 4) ((S 3).1 5) d1 d2 e3 e4 e5 e6 e7 e8 mk x10 x11 x12 x13 x14 (T.2.1 4) (T.2.1 5) ((S 2).1 3) = some u ∧ u.2.2.1 = upd y8 i (nI (t i))) ∧ (∀ (y7 y8 : Nat → Int32) (d1 d2 : Nat → Int32) (e3 e4 e5 e6 e7 e8 : Int32) (mk : Nat → Int32) (x10 x11 x12 x13 x14 : Int32), T.2.1 56 i = 1 → ∃ u, f_X2_stepsOf (nI i) (T.2.1 59) y7 y8 ((S 4).2 0) ((S 4).2 1) ((S 4).2 2) ((S 4).2 3) ((S 4).2 4) ((S 4).1 5) d1 d2 e3 e4 e5 e6 e7 e8 mk x10 x11 x12 x13 x14 (T.2.1 4) (T.2.1 5) ((S 2).1 3) = some u ∧ u.2.2.1 = upd y8 i (nI (t i))) ∧ (∀ (y7 y8 : Nat → Int32) (d1 d2 : Nat → Int32) (e3 e4 e5 e6 e7 e8 : Int32) (mk : Nat → Int32) (x10 x11 x12 x13 x14 : Int32), T.2.1 56 i = 2 → ∃ u, f_X2_stepsOf (nI i) (T.2.1 59) y7 y8 ((S 5).2 0) ((S 5).2 1) ((S 5).2 2) ((S 5).2 3) ((S 5).2 4) ((S 5).1 5) d1 d2 e3 e4 e5 e6 e7 e8 mk x10 x11 x12 x13 x14 (T.2.1 4) (T.2.1 5) ((S 2).1 3) = some u ∧ u.2.2.1 = upd y8 i (nI (t i))) ∧ (∀ (d1 d2 : Nat → Int32) (e3 e4 e5 e6 e7 e8 : Int32) (y43 : Nat → Int32), ∃ u, f_X12_takesNow (nI i) (T.2.1 4) (T.2.1 5) (T.2.1 25) (T.2.1 26) (T.2.1 27) (T.2.1 28) d1 d2 e3 e4 e5 e6 e7 e8 y43 (T.2.1 56) (T.2.1 59) = some u ∧ u.1 = nI (t i))) (Q : Option (Int32 × (Nat → Int32) × (Nat → Int32) × Int32 × Int32 × Int32 × Int32 × Int32 × Int32 × (Nat → Int32) × Int32 × Int32 × Int32 × Int32 × Int32 × (Nat → Int32) × (Nat → Int32) × (Nat → Int32)) → Prop)
    (hQ : ∀ (y7 y8 : Nat → Int32) (d1 d2 : Nat → Int32) (e3 e4 e5 e6 e7 e8 : Int32) (mk : Nat → Int32) (x10 x11 x12 x13 x14 : Int32), (∀ j, j < 8 → sm.testBit j = true → y8 j = nI (t j)) → Q ((f_X2_weigh (nI sm) (T.2.1 57) (T.2.1 58) y8 y9).bind (fun u1 => (if v2 = (-1) then some ((u1 (0 : Int32).toNatClampNeg), d1, d2, e3, e4, e5, e6, e7, e8, mk, x10, x11, x12, x13, x14, y7, y8, u1) else (f_X2_placed (nI sm) v2 (T.2.1 57) (T.2.1 58) y8 u1).bind (fun u2 => some (u2, d1, d2, e3, e4, e5, e6, e7, e8, mk, x10, x11, x12, x13, x14, y7, y8, u1)))))) :
    ∀ (fu i : Nat) (y7 y8 : Nat → Int32) (d1 d2 : Nat → Int32) (e3 e4 e5 e6 e7 e8 : Int32) (mk : Nat → Int32) (x10 x11 x12 x13 x14 : Int32), i ≤ 8 → 9 ≤ fu + i → (∀ j, j < i → sm.testBit j = true → y8 j = nI (t j)) → Q (g_X11_order_46 fu (nI sm) v2 (nI i) d1 d2 e3 e4 e5 e6 e7 e8 mk x10 x11 x12 x13 x14 (T.2.1 56) (T.2.1 57) (T.2.1 58) (T.2.1 59) y7 y8 y9 x10' (T.2.1 4) (T.2.1 5) ((S 2).1 3) ((S 3).2 0) ((S 3).2 1) ((S 3).2 2) ((S 3).2 3) ((S 3).2 4) ((S 3).1 5) ((S 4).2 0) ((S 4).2 1) ((S 4).2 2) ((S 4).2 3) ((S 4).2 4) ((S 4).1 5) ((S 5).2 0) ((S 5).2 1) ((S 5).2 2) ((S 5).2 3) ((S 5).2 4) ((S 5).1 5)) := by
  intro fu
  induction fu with
  | zero => intro i y7 y8 d1 d2 e3 e4 e5 e6 e7 e8 mk x10 x11 x12 x13 x14 h1 h2; omega
  | succ fu ih =>
    intro i y7 y8 d1 d2 e3 e4 e5 e6 e7 e8 mk x10 x11 x12 x13 x14 h1 h2 hy
    simp only [g_X11_order_46]
    rcases Nat.lt_or_ge i 8 with hi | hi
    · rw [if_neg (c8_le hi), bit_nI sm hi, nI_s]
      cases hb : sm.testBit i with
      | false =>
        rw [if_neg (show ¬ false = true by decide), if_pos rfl]
        refine ih (i + 1) y7 y8 d1 d2 e3 e4 e5 e6 e7 e8 mk x10 x11 x12 x13 x14 (by omega) (by omega) (fun j hj hbj => ?_)
        rcases Nat.lt_or_ge j i with z | z
        · exact hy j z hbj
        · rw [show j = i by omega] at hbj; exact absurd (hb.symm.trans hbj) (by decide)
      | true =>
        rw [if_pos (show true = true from rfl), if_neg (by decide), if_pos (vin_nI hi (by omega)), nc i (by omega)]
        obtain ⟨-, q0, q1, q2, -⟩ := ht i hi
        have key : ∀ (y8' : Nat → Int32), y8' = upd y8 i (nI (t i)) → ∀ j, j < i + 1 → sm.testBit j = true → y8' j = nI (t j) := by
          intro y8' e j hj hbj
          subst e
          by_cases hji : j = i
          · subst hji; rw [upd_same]
          · rw [upd_ne hji]; exact hy j (by omega) hbj
        by_cases a0 : T.2.1 56 i = 0
        · obtain ⟨u, z1, z2⟩ := q0 y7 y8 d1 d2 e3 e4 e5 e6 e7 e8 mk x10 x11 x12 x13 x14 a0
          rw [if_pos a0, z1, Option.bind_some]
          exact ih (i + 1) _ _ _ _ _ _ _ _ _ _ _ _ _ _ _ _ (by omega) (by omega) (key _ z2)
        · rw [if_neg a0]
          by_cases a1 : T.2.1 56 i = 1
          · obtain ⟨u, z1, z2⟩ := q1 y7 y8 d1 d2 e3 e4 e5 e6 e7 e8 mk x10 x11 x12 x13 x14 a1
            rw [if_pos a1, z1, Option.bind_some]
            exact ih (i + 1) _ _ _ _ _ _ _ _ _ _ _ _ _ _ _ _ (by omega) (by omega) (key _ z2)
          · have a2 : T.2.1 56 i = 2 := by
              obtain ⟨k, hk, ek⟩ := of_rng (x := T.2.1 56 i) (n := 2) (by omega) (h56 i).1 (h56 i).2
              rcases (show k = 0 ∨ k = 1 ∨ k = 2 by omega) with rfl | rfl | rfl
              · exact absurd ek a0
              · exact absurd ek a1
              · exact ek
            obtain ⟨u, z1, z2⟩ := q2 y7 y8 d1 d2 e3 e4 e5 e6 e7 e8 mk x10 x11 x12 x13 x14 a2
            rw [if_neg a1, if_pos a2, z1, Option.bind_some]
            exact ih (i + 1) _ _ _ _ _ _ _ _ _ _ _ _ _ _ _ _ (by omega) (by omega) (key _ z2)
    · have hi8 : i = 8 := by omega
      subst hi8
      rw [if_pos c8_ge]
      exact hQ y7 y8 d1 d2 e3 e4 e5 e6 e7 e8 mk x10 x11 x12 x13 x14 hy
theorem m_order43 {S : XS} {T : MS} {sm : Nat} {v2 : Int32} {y61 : Nat → Int32} {x55 : Int32} {t : Nat → Nat} (ht : ∀ i, i < 8 → (t i) ≤ 1000 ∧ (∀ (y7 y8 : Nat → Int32) (d1 d2 : Nat → Int32) (e3 e4 e5 e6 e7 e8 : Int32) (mk : Nat → Int32) (x10 x11 x12 x13 x14 : Int32), T.2.1 56 i = 0 → ∃ u, f_X2_stepsOf (nI i) (T.2.1 59) y7 y8 ((S 3).2 0) ((S 3).2 1) ((S 3).2 2) ((S 3).2 3) ((S 3).2 4) ((S 3).1 5) d1 d2 e3 e4 e5 e6 e7 e8 mk x10 x11 x12 x13 x14 (T.2.1 4) (T.2.1 5) ((S 2).1 3) = some u ∧ u.2.2.1 = upd y8 i (nI (t i))) ∧ (∀ (y7 y8 : Nat → Int32) (d1 d2 : Nat → Int32) (e3 e4 e5 e6 e7 e8 : Int32) (mk : Nat → Int32) (x10 x11 x12 x13 x14 : Int32), T.2.1 56 i = 1 → ∃ u, f_X2_stepsOf (nI i) (T.2.1 59) y7 y8 ((S 4).2 0) ((S 4).2 1) ((S 4).2 2) ((S 4).2 3) ((S 4).2 4) ((S 4).1 5) d1 d2 e3 e4 e5 e6 e7 e8 mk x10 x11 x12 x13 x14 (T.2.1 4) (T.2.1 5) ((S 2).1 3) = some u ∧ u.2.2.1 = upd y8 i (nI (t i))) ∧ (∀ (y7 y8 : Nat → Int32) (d1 d2 : Nat → Int32) (e3 e4 e5 e6 e7 e8 : Int32) (mk : Nat → Int32) (x10 x11 x12 x13 x14 : Int32), T.2.1 56 i = 2 → ∃ u, f_X2_stepsOf (nI i) (T.2.1 59) y7 y8 ((S 5).2 0) ((S 5).2 1) ((S 5).2 2) ((S 5).2 3) ((S 5).2 4) ((S 5).1 5) d1 d2 e3 e4 e5 e6 e7 e8 mk x10 x11 x12 x13 x14 (T.2.1 4) (T.2.1 5) ((S 2).1 3) = some u ∧ u.2.2.1 = upd y8 i (nI (t i))) ∧ (∀ (d1 d2 : Nat → Int32) (e3 e4 e5 e6 e7 e8 : Int32) (y43 : Nat → Int32), ∃ u, f_X12_takesNow (nI i) (T.2.1 4) (T.2.1 5) (T.2.1 25) (T.2.1 26) (T.2.1 27) (T.2.1 28) d1 d2 e3 e4 e5 e6 e7 e8 y43 (T.2.1 56) (T.2.1 59) = some u ∧ u.1 = nI (t i))) (Q : Option (Int32 × (Nat → Int32) × (Nat → Int32) × Int32 × Int32 × Int32 × Int32 × Int32 × Int32 × (Nat → Int32) × (Nat → Int32) × (Nat → Int32)) → Prop)
    (hQ : ∀ (y60 d1 d2 : Nat → Int32) (e3 e4 e5 e6 e7 e8 : Int32) (y43 : Nat → Int32), (∀ j, j < 8 → sm.testBit j = true → y60 j = nI (t j)) → Q (g_X12_order_81 FU (nI sm) v2 (nI sm) (T.2.1 4) (T.2.1 5) (T.2.1 25) (T.2.1 26) (T.2.1 27) (T.2.1 28) d1 d2 e3 e4 e5 e6 e7 e8 y43 x55 (T.2.1 56) (T.2.1 57) (T.2.1 58) (T.2.1 59) y60 y61)) :
    ∀ (fu i : Nat) (y60 d1 d2 : Nat → Int32) (e3 e4 e5 e6 e7 e8 : Int32) (y43 : Nat → Int32), i ≤ 8 → 9 ≤ fu + i → (∀ j, j < i → sm.testBit j = true → y60 j = nI (t j)) → Q (g_X12_order_43 fu (nI sm) v2 (nI i) (T.2.1 4) (T.2.1 5) (T.2.1 25) (T.2.1 26) (T.2.1 27) (T.2.1 28) d1 d2 e3 e4 e5 e6 e7 e8 y43 x55 (T.2.1 56) (T.2.1 57) (T.2.1 58) (T.2.1 59) y60 y61) := by
  intro fu
  induction fu with
  | zero => intro i y60 d1 d2 e3 e4 e5 e6 e7 e8 y43 h1 h2; omega
  | succ fu ih =>
    intro i y60 d1 d2 e3 e4 e5 e6 e7 e8 y43 h1 h2 hy
    simp only [g_X12_order_43]
    rcases Nat.lt_or_ge i 8 with hi | hi
    · rw [if_neg (c8_le hi), bit_nI sm hi, nI_s]
      cases hb : sm.testBit i with
      | false =>
        rw [if_neg (show ¬ false = true by decide), if_neg (by decide), if_pos (vin_nI hi (by omega)), nc i (by omega)]
        refine ih (i + 1) _ d1 d2 e3 e4 e5 e6 e7 e8 y43 (by omega) (by omega) (fun j hj hbj => ?_)
        by_cases hji : j = i
        · subst hji; exact absurd (hb.symm.trans hbj) (by decide)
        · rw [upd_ne hji]; exact hy j (by omega) hbj
      | true =>
        obtain ⟨-, -, -, -, q3⟩ := ht i hi
        obtain ⟨u, z1, z2⟩ := q3 d1 d2 e3 e4 e5 e6 e7 e8 y43
        rw [if_pos (show true = true from rfl), if_pos rfl, z1, Option.bind_some, if_pos (vin_nI hi (by omega)), nc i (by omega), z2]
        refine ih (i + 1) _ _ _ _ _ _ _ _ _ _ (by omega) (by omega) (fun j hj hbj => ?_)
        by_cases hji : j = i
        · subst hji; rw [upd_same]
        · rw [upd_ne hji]; exact hy j (by omega) hbj
    · have hi8 : i = 8 := by omega
      subst hi8
      rw [if_pos c8_ge]
      exact hQ y60 d1 d2 e3 e4 e5 e6 e7 e8 y43 hy
theorem ok_order : Ok_order Rel := by
  intro S T s1 s2 hR
  obtain ⟨ht, ⟨v1, v2, v3, vb⟩, ⟨r0, r1, r2⟩, hs, hp, ⟨m1, m2, m3, m4, m5, m6, m7⟩, hb, hk⟩ := hR
  have hRel : ∀ u w, Rel (stX_order S u) (stM_order T w) := fun u w => ⟨ht, ⟨v1, v2, v3, vb⟩, ⟨r0, r1, r2⟩, hs, hp, ⟨m1, m2, m3, m4, m5, m6, m7⟩, hb, hk⟩
  unfold f_X11_order g_X11_order_0 f_X12_order g_X12_order_0
  simp only [m1, m2, m3, m4, m5, v1, v2]
  rw [w_in, m_in, Option.bind_some, Option.bind_some]
  by_cases h1 : (1 : Int32) ≤ s1 ∧ s1 ≤ 255
  · simp only [if_pos h1, if_neg (show ¬ (1 : Int32) = 0 by decide)]
    obtain ⟨sm, hsm, rfl⟩ := of_rng (x := s1) (n := 255) (by omega) (le_trans32 (by decide) h1.1) h1.2
    rw [x_bits sm (by omega), m_bits, Option.bind_some, Option.bind_some, w_in, m_in, Option.bind_some, Option.bind_some]
    by_cases h2 : (-1 : Int32) ≤ s2 ∧ s2 ≤ bits8 (nI sm) - 1
    · simp only [if_pos h2, if_neg (show ¬ (1 : Int32) = 0 by decide)]
      by_cases h3 : nI sm &&& (T.1 55 ^^^ (-1)) = 0
      · simp only [if_pos h3]
        obtain ⟨t, ht'⟩ := Classical.axiomOfChoice (steps_ex r0 r1 r2 vb m7)
        have h4 : ∀ j, j < 8 → T.2.1 57 j = nI ((T.2.1 57 j).toNatClampNeg) ∧ (T.2.1 57 j).toNatClampNeg ≤ 9999 := by
          intro j hj
          obtain ⟨q, hq, e⟩ := of_rng (x := T.2.1 57 j) (n := 9999) (by omega) (m7 j).2.1.1 (m7 j).2.1.2
          rw [e, nc q (by omega)]; exact ⟨rfl, hq⟩
        have h5 : ∀ j, j < 8 → T.2.1 58 j = nI ((T.2.1 58 j).toNatClampNeg) ∧ (T.2.1 58 j).toNatClampNeg ≤ 99 := by
          intro j hj
          obtain ⟨q, hq, e⟩ := of_rng (x := T.2.1 58 j) (n := 99) (by omega) (m7 j).2.2.1.1 (m7 j).2.2.1.2
          rw [e, nc q (by omega)]; exact ⟨rfl, hq⟩
        suffices hh : ∃ v, (∃ u, g_X11_order_46 FU (nI sm) s2 0 ((S 10).2 1) ((S 10).2 2) ((S 10).1 3) ((S 10).1 4) ((S 10).1 5) ((S 10).1 6) ((S 10).1 7) ((S 10).1 8) ((S 10).2 9) ((S 10).1 10) ((S 10).1 11) ((S 10).1 12) ((S 10).1 13) ((S 10).1 14) (T.2.1 56) (T.2.1 57) (T.2.1 58) (T.2.1 59) ((S 15).2 7) ((S 15).2 8) ((S 15).2 9) (T.1 55) (T.2.1 4) (T.2.1 5) ((S 2).1 3) ((S 3).2 0) ((S 3).2 1) ((S 3).2 2) ((S 3).2 3) ((S 3).2 4) ((S 3).1 5) ((S 4).2 0) ((S 4).2 1) ((S 4).2 2) ((S 4).2 3) ((S 4).2 4) ((S 4).1 5) ((S 5).2 0) ((S 5).2 1) ((S 5).2 2) ((S 5).2 3) ((S 5).2 4) ((S 5).1 5) = some u ∧ u.1 = v) ∧ (∃ u, g_X12_order_43 FU (nI sm) s2 0 (T.2.1 4) (T.2.1 5) (T.2.1 25) (T.2.1 26) (T.2.1 27) (T.2.1 28) (T.2.1 35) (T.2.1 36) (T.1 37) (T.1 38) (T.1 39) (T.1 40) (T.1 41) (T.1 42) (T.2.1 43) (T.1 55) (T.2.1 56) (T.2.1 57) (T.2.1 58) (T.2.1 59) (T.2.1 60) (T.2.1 61) = some u ∧ u.1 = v) by
          obtain ⟨v, ⟨u, e1, e2⟩, w, e3, e4⟩ := hh
          exact ⟨u, w, e1, e3, e2.trans e4.symm, hRel u w⟩
        refine x_order46 (S := S) (T := T) (sm := sm) (v2 := s2) (y9 := (S 15).2 9) (x10' := T.1 55) (t := t) (fun j => (m7 j).1) ht' (fun o => ∃ v, (∃ u, o = some u ∧ u.1 = v) ∧ (∃ u, g_X12_order_43 FU (nI sm) s2 0 (T.2.1 4) (T.2.1 5) (T.2.1 25) (T.2.1 26) (T.2.1 27) (T.2.1 28) (T.2.1 35) (T.2.1 36) (T.1 37) (T.1 38) (T.1 39) (T.1 40) (T.1 41) (T.1 42) (T.2.1 43) (T.1 55) (T.2.1 56) (T.2.1 57) (T.2.1 58) (T.2.1 59) (T.2.1 60) (T.2.1 61) = some u ∧ u.1 = v)) (fun y7 y8 d1 d2 e3 e4 e5 e6 e7 e8 mk x10 x11 x12 x13 x14 hy8 => ?_) FU 0 ((S 15).2 7) ((S 15).2 8) ((S 10).2 1) ((S 10).2 2) ((S 10).1 3) ((S 10).1 4) ((S 10).1 5) ((S 10).1 6) ((S 10).1 7) ((S 10).1 8) ((S 10).2 9) ((S 10).1 10) ((S 10).1 11) ((S 10).1 12) ((S 10).1 13) ((S 10).1 14) (by omega) (by unfold FU; omega) (fun j hj => absurd hj (by omega))
        refine m_order43 (S := S) (T := T) (sm := sm) (v2 := s2) (y61 := T.2.1 61) (x55 := T.1 55) (t := t) ht' (fun o => ∃ v, (∃ u, (f_X2_weigh (nI sm) (T.2.1 57) (T.2.1 58) y8 ((S 15).2 9)).bind (fun u1 => (if s2 = (-1) then some ((u1 (0 : Int32).toNatClampNeg), d1, d2, e3, e4, e5, e6, e7, e8, mk, x10, x11, x12, x13, x14, y7, y8, u1) else (f_X2_placed (nI sm) s2 (T.2.1 57) (T.2.1 58) y8 u1).bind (fun u2 => some (u2, d1, d2, e3, e4, e5, e6, e7, e8, mk, x10, x11, x12, x13, x14, y7, y8, u1)))) = some u ∧ u.1 = v) ∧ (∃ u, o = some u ∧ u.1 = v)) (fun y60 d1' d2' e3' e4' e5' e6' e7' e8' y43' hy60 => ?_) FU 0 (T.2.1 60) (T.2.1 35) (T.2.1 36) (T.1 37) (T.1 38) (T.1 39) (T.1 40) (T.1 41) (T.1 42) (T.2.1 43) (by omega) (by unfold FU; omega) (fun j hj => absurd hj (by omega))
        have hx8 : ∀ j, j < 8 → sm.testBit j = true → y8 j = nI (t j) ∧ t j ≤ 1000 := fun j hj hb => ⟨hy8 j hj hb, (ht' j hj).1⟩
        have hx60 : ∀ j, j < 8 → sm.testBit j = true → y60 j = nI (t j) ∧ t j ≤ 1000 := fun j hj hb => ⟨hy60 j hj hb, (ht' j hj).1⟩
        obtain ⟨bs, y9', y61', w1, w2, w3⟩ := weigh_both (sm := sm) (t := t) (du := fun j => (T.2.1 57 j).toNatClampNeg) (pc := fun j => (T.2.1 58 j).toNatClampNeg) (y4 := T.2.1 57) (y5 := T.2.1 58) (y8 := y8) (y60 := y60) (k4 := T.2.1 4) (k5 := T.2.1 5) (o25 := T.2.1 25) (o26 := T.2.1 26) (o27 := T.2.1 27) (o28 := T.2.1 28) (z35 := d1') (z36 := d2') (x37 := e3') (x38 := e4') (x39 := e5') (x40 := e6') (x41 := e7') (x42 := e8') (z43 := y43') (x55 := T.1 55) (z56 := T.2.1 56) (z59 := T.2.1 59) (by omega) (v2 := s2) hx8 hx60 h4 h5 FU (sm + 1) (fun _ => 0) ((S 15).2 9) (T.2.1 61) (by omega) (by unfold FU; omega) (fun S' hS1 hS2 hS3 => by have := sub_le hS2 hS3; omega)
        rw [show nI (sm + 1) - 1 = nI sm from nI_m (by omega)] at w1 w2
        have w1' : f_X2_weigh (nI sm) (T.2.1 57) (T.2.1 58) y8 ((S 15).2 9) = some y9' := w1
        rw [w1', Option.bind_some, w2]
        by_cases hm1 : s2 = -1
        · rw [if_pos hm1, if_pos hm1]
          obtain ⟨g1, g2, -, -⟩ := w3 0 (Nat.zero_le _) (by omega) (fun i hi h => absurd h (by simp))
          refine ⟨nI (bs 0), ⟨_, rfl, ?_⟩, _, rfl, ?_⟩
          · exact g1
          · exact g2
        · rw [if_neg hm1, if_neg hm1]
          have h20 : (0 : Int32) ≤ s2 := by
            have := h2.1
            rw [i_le] at this ⊢
            have e1 : (-1 : Int32).toInt = -1 := rfl
            have e0 : (0 : Int32).toInt = 0 := rfl
            have : s2.toInt ≠ -1 := fun h => hm1 (by rw [i_eq]; exact h)
            omega
          have hb8 := bits_sum sm (by omega)
          have hle8 := tsum_le (S := sm) (t := fun _ => 1) (c := 1) (fun j _ _ => Nat.le_refl _) 8 (by omega)
          have h2b := h2.2
          rw [hb8] at h2b
          have hpos : 0 < tsum sm (fun _ => 1) 8 := by
            rcases Nat.eq_zero_or_pos (tsum sm (fun _ => 1) 8) with z | z
            · rw [z] at h2b
              have h2c := Int32.le_trans h20 h2b
              exact absurd h2c (by decide)
            · exact z
          rw [show nI (tsum sm (fun _ => 1) 8) - 1 = nI (tsum sm (fun _ => 1) 8 - 1) from nI_m hpos] at h2b
          obtain ⟨pl, hpl, rfl⟩ := of_rng (x := s2) (n := tsum sm (fun _ => 1) 8 - 1) (by omega) h20 h2b
          obtain ⟨ans, z1, u, z2, z3⟩ := place_both (sm := sm) (t := t) (du := fun j => (T.2.1 57 j).toNatClampNeg) (pc := fun j => (T.2.1 58 j).toNatClampNeg) (y4 := T.2.1 57) (y5 := T.2.1 58) (y8 := y8) (y60 := y60) (k4 := T.2.1 4) (k5 := T.2.1 5) (o25 := T.2.1 25) (o26 := T.2.1 26) (o27 := T.2.1 27) (o28 := T.2.1 28) (z35 := d1') (z36 := d2') (x37 := e3') (x38 := e4') (x39 := e5') (x40 := e6') (x41 := e7') (x42 := e8') (z43 := y43') (x55 := T.1 55) (z56 := T.2.1 56) (z59 := T.2.1 59) (by omega) (pl := pl) (by omega) hx8 hx60 h4 h5 w3 FU FU pl 0 0 (-1) (by omega) (by unfold FU; omega) (by unfold FU; omega) (by omega) (fun i hi h => absurd h (by simp)) rfl
          have z1' : f_X2_placed (nI sm) (nI pl) (T.2.1 57) (T.2.1 58) y8 y9' = some ans := z1
          rw [z1', Option.bind_some]
          exact ⟨ans, ⟨_, rfl, rfl⟩, u, z2, z3⟩
      · simp only [if_neg h3]
        exact ⟨_, _, rfl, rfl, rfl, hRel _ _⟩
    · simp only [if_neg h2, if_true]
      exact ⟨_, _, rfl, rfl, rfl, hRel _ _⟩
  · simp only [if_neg h1, if_true]
    exact ⟨_, _, rfl, rfl, rfl, hRel _ _⟩
