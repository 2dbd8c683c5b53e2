section SPL
variable {n : Nat} {P : SG} {d : Nat → Nat} {bo : Nat → Bool} {c wi co bg nw L : Nat → Int32} {a3 a4 a6 a8 : Int32}
theorem spec_loop (hw : SWf n P d bo) (hn : n ≤ 120) (h0 : 0 < n) (hc : ∀ i, i < n → c i = nI (xsp (P i).1) ∧ ((P i).1 ≤ 1 ∨ 11 ≤ (P i).1 → wi i = nI (P i).2)) (hco : ∀ i, i < n → co i = nI (1048576 * (P i).1 + (P i).2)) (hL : ∀ j, j < 16 → f_X0_known (nI j) bg nw a3 a4 a6 a8 = some (L j)) :
    ∀ (fu i st : Nat) (hx hm : Nat → Int32) (x4 x6 : Int32), n - i < fu → i ≤ n → st ≤ i → SI d bo i hx x4 x6 hm → ∃ (r : Bool) (hx' : Nat → Int32) (y4 y5 y6 r' : Int32) (hm' : Nat → Int32), g_X6_holds_19 fu (nI i) (nI st) c wi (nI n) hx x4 0 x6 bg nw a3 a4 a6 a8 = some ((if r = true then 1 else 0), hx', y4, y5, y6) ∧ g_X12_comesTo_16 fu (nI n) (nI (d i)) 0 (nI i) co hm L = some (r', hm') ∧ (r' = 1 ↔ r = true) := by
  intro fu
  induction fu with
  | zero => intro i st hx hm x4 x6 h; omega
  | succ fu ih =>
    intro i st hx hm x4 x6 hf hi hst hS
    obtain ⟨s1, s2, s3⟩ := hS
    rcases Nat.lt_or_ge i n with hin | hin
    · obtain ⟨k0, k1, k2, k3, k4, k5, k6⟩ := hw.2 i hin
      obtain ⟨c1, c2⟩ := hc i hin
      have hcm := hco i hin
      generalize ho : (P i).1 = o at *
      generalize hv : (P i).2 = v at *
      by_cases o0 : o = 0
      · subst o0
        obtain ⟨q1, q2, q3, q4⟩ := k1 rfl
        obtain ⟨t1, t2⟩ := s2 q3
        have e : f_X6_obey (c i) (wi i) hx x4 0 x6 bg nw a3 a4 a6 a8 = some (upd hx (d i) (nI v), nI (d i + 1), 0, x6) := by
          rw [c1, c2 (by omega), t1]
          unfold f_X6_obey g_X6_obey_0
          rw [if_pos (show nI (xsp 0) = 0 from rfl), x_push (by omega), Option.bind_some]
        rw [xs_plain hst hin hn (by rw [c1]; decide) (by rw [c1]; decide) e, ms_num hin hn (by omega) hcm (by omega), ← q2]
        refine ih (i + 1) (st + 1) _ _ _ _ (by omega) (by omega) (by omega) ⟨by omega, fun _ => ⟨rfl, fun j hj => ?_⟩, fun x => absurd (q4.symm.trans x) (by decide)⟩
        by_cases hjd : j = d i
        · subst hjd; rw [upd_same, upd_same]
        · rw [upd_ne hjd, upd_ne hjd]; exact t2 j (by omega)
      · by_cases o1 : o = 1
        · subst o1
          obtain ⟨q1, q2, q3, q4⟩ := k2 rfl
          obtain ⟨t1, t2⟩ := s2 q3
          have e : f_X6_obey (c i) (wi i) hx x4 0 x6 bg nw a3 a4 a6 a8 = some (upd hx (d i) (L v), nI (d i + 1), 0, x6) := by
            rw [c1, c2 (by omega), t1]
            unfold f_X6_obey g_X6_obey_0
            rw [if_neg (show ¬ nI (xsp 1) = 0 by decide), if_pos (show nI (xsp 1) = 1 from rfl), hL v q1, Option.bind_some, x_push (by omega), Option.bind_some]
          rw [xs_plain hst hin hn (by rw [c1]; decide) (by rw [c1]; decide) e, ms_let hin hn (by omega) hcm q1, ← q2]
          refine ih (i + 1) (st + 1) _ _ _ _ (by omega) (by omega) (by omega) ⟨by omega, fun _ => ⟨rfl, fun j hj => ?_⟩, fun x => absurd (q4.symm.trans x) (by decide)⟩
          by_cases hjd : j = d i
          · subst hjd; rw [upd_same, upd_same]
          · rw [upd_ne hjd, upd_ne hjd]; exact t2 j (by omega)
        · by_cases o2 : o ≤ 9
          · have hv0 : v = 0 := by
              by_cases o6 : o ≤ 6
              · exact (k3 ⟨by omega, o6⟩).1
              · exact (k4 ⟨by omega, o2⟩).1
            have hbf : bo i = false := by
              by_cases o6 : o ≤ 6
              · exact (k3 ⟨by omega, o6⟩).2.2.2.1
              · exact (k4 ⟨by omega, o2⟩).2.2.2.1
            have hd2 : 2 ≤ d i := by
              by_cases o6 : o ≤ 6
              · exact (k3 ⟨by omega, o6⟩).2.1
              · have := (k4 ⟨by omega, o2⟩).2.1; omega
            obtain ⟨t1, t2⟩ := s2 hbf
            obtain ⟨k, hk⟩ : ∃ k, d i = k + 2 := ⟨d i - 2, by omega⟩
            have hr : 2 ≤ o ∧ o ≤ 9 := ⟨by omega, o2⟩
            have e1 := ob_two (v := wi i) (x6 := x6) (h := hx) (bg := bg) (nw := nw) (a3 := a3) (a4 := a4) (a6 := a6) (a8 := a8) (k := k) hr (by omega)
            have e2 : hx k = hm k := t2 k (by omega)
            have e3 : hx (k + 1) = hm (k + 1) := t2 (k + 1) (by omega)
            have x3 : ¬ c i = 3 := by
              rw [c1]; rcases (show o = 2 ∨ o = 3 ∨ o = 4 ∨ o = 5 ∨ o = 6 ∨ o = 7 ∨ o = 8 ∨ o = 9 by omega) with rfl | rfl | rfl | rfl | rfl | rfl | rfl | rfl <;> decide
            have x4' : ¬ c i = 4 := by
              rw [c1]; rcases (show o = 2 ∨ o = 3 ∨ o = 4 ∨ o = 5 ∨ o = 6 ∨ o = 7 ∨ o = 8 ∨ o = 9 by omega) with rfl | rfl | rfl | rfl | rfl | rfl | rfl | rfl <;> decide
            rw [hv0] at hcm
            rw [e2, e3, ← hk, ← t1, ← c1] at e1
            rw [hk, ms_two hin hn hr (by omega) hcm]
            by_cases hz : (o = 5 ∨ o = 6) ∧ hm (k + 1) = 0
            · rw [if_pos hz] at e1
              rw [if_pos hz, xs_plain hst hin hn x3 x4' e1]
              obtain ⟨fu', rfl⟩ : ∃ fu', fu = fu' + 1 := ⟨fu - 1, by omega⟩
              rw [xs_fail]
              exact ⟨false, _, _, _, _, _, _, rfl, rfl, by decide⟩
            · rw [if_neg hz] at e1
              obtain ⟨u, e4, e5⟩ := rk_some hr (a := hm k) (b := hm (k + 1)) hz
              rw [e4, Option.bind_some] at e1
              rw [if_neg hz, e4, Option.bind_some]
              by_cases o6 : 7 ≤ o
              · obtain ⟨-, q2, q3, -, q5⟩ := k4 ⟨by omega, o2⟩
                have hk0 : k = 0 := by omega
                subst hk0
                rw [if_pos o6] at e1
                rw [xs_plain hst hin hn x3 x4' e1]
                have := ih (i + 1) (st + 1) hx (upd hm 0 u) (nI 0) u (by omega) (by omega) (by omega) ⟨by omega, fun x => absurd (q5.symm.trans x) (by decide), fun _ => ⟨q3, rfl, e5 o6, upd_same _ _ _⟩⟩
                rw [q3] at this
                exact this
              · obtain ⟨-, -, q3, -, q5⟩ := k3 ⟨by omega, by omega⟩
                rw [if_neg o6] at e1
                have q3' : d (i + 1) = k + 1 := by omega
                rw [xs_plain hst hin hn x3 x4' e1, ← q3']
                refine ih (i + 1) (st + 1) _ _ _ _ (by omega) (by omega) (by omega) ⟨by omega, fun _ => ⟨by rw [q3'], fun j hj => ?_⟩, fun x => absurd (q5.symm.trans x) (by decide)⟩
                by_cases hjd : j = k
                · subst hjd; rw [upd_same, upd_same]
                · rw [upd_ne hjd, upd_ne hjd]; exact t2 j (by omega)
          · by_cases o3 : o = 10
            · subst o3
              obtain ⟨q1, q2, q3, q4, q5⟩ := k5 rfl
              obtain ⟨t0, t1, t2, t3⟩ := s3 q4
              have e : f_X6_obey (c i) (wi i) hx x4 0 x6 bg nw a3 a4 a6 a8 = some (hx, x4, 0, 1 - x6) := by
                rw [c1]
                unfold f_X6_obey g_X6_obey_0
                rw [if_neg (show ¬ nI (xsp 10) = 0 by decide), if_neg (show ¬ nI (xsp 10) = 1 by decide), if_pos (show nI (xsp 10) = 2 from rfl)]
                rcases t2 with rfl | rfl
                · rw [if_pos rfl]; rfl
                · rw [if_neg (by decide)]; rfl
              rw [q2, xs_plain hst hin hn (by rw [c1]; decide) (by rw [c1]; decide) e, ms_not hin hn hcm (by omega)]
              have := ih (i + 1) (st + 1) hx (upd hm 0 (1 - hm 0)) x4 (1 - x6) (by omega) (by omega) (by omega) ⟨by omega, fun x => absurd (q5.symm.trans x) (by decide), fun _ => ⟨q3, t1, by rcases t2 with rfl | rfl; exact Or.inr rfl; exact Or.inl rfl, by rw [upd_same, t3]⟩⟩
              rw [q3] at this
              exact this
            · have o4 : o = 11 ∨ o = 12 := by omega
              obtain ⟨q1, q2, q3, q4, q5, q6, q7, q8⟩ := k6 (by omega)
              obtain ⟨t0, t1, t2, t3⟩ := s3 q4
              have hwi := c2 (by omega)
              rw [q3]
              have cx : (o = 11 → c i = 3) ∧ (o = 12 → c i = 4) := ⟨fun x => by rw [c1, x]; rfl, fun x => by rw [c1, x]; rfl⟩
              by_cases hj : hm 0 = nI (o - 11)
              · rw [ms_jump hin hn o4 hcm (by omega) hj]
                have hX : (c i = 3 ∧ x6 = 0) ∨ (c i = 4 ∧ ¬ x6 = 0) := by
                  rcases o4 with rfl | rfl
                  · exact Or.inl ⟨cx.1 rfl, by rw [← t3, hj]; rfl⟩
                  · exact Or.inr ⟨cx.2 rfl, by rw [← t3, hj]; decide⟩
                rw [xs_jump hst hin hn q1 (by omega) hwi hX]
                have := ih v (st + 1) hx hm x4 x6 (by omega) q2 (by omega) ⟨by omega, fun x => absurd (q8.symm.trans x) (by decide), fun _ => ⟨q7, t1, t2, t3⟩⟩
                rw [q7] at this
                exact this
              · rw [ms_on hin hn o4 hcm (by omega) hj]
                have hX : (c i = 3 ∧ ¬ x6 = 0) ∨ (c i = 4 ∧ x6 = 0) := by
                  rcases o4 with rfl | rfl
                  · exact Or.inl ⟨cx.1 rfl, fun x => hj (by rw [t3, x]; rfl)⟩
                  · refine Or.inr ⟨cx.2 rfl, ?_⟩
                    rcases t2 with x | x
                    · exact x
                    · exact absurd (by rw [t3, x]; rfl) hj
                rw [xs_on hst hin hn hX]
                have := ih (i + 1) (st + 1) hx hm x4 x6 (by omega) (by omega) (by omega) ⟨by omega, fun _ => ⟨by rw [q5, t1], fun j hj => absurd hj (by omega)⟩, fun x => absurd (q6.symm.trans x) (by decide)⟩
                rw [q5] at this
                exact this
    · have hin' : i = n := by omega
      subst hin'
      obtain ⟨-, -, q3, q4⟩ := hw.1 h0
      obtain ⟨t0, t1, t2, t3⟩ := s3 q4
      rw [xs_end hn, ms_end hn, t3]
      rcases t2 with rfl | rfl
      · exact ⟨false, _, _, _, _, _, _, rfl, rfl, by decide⟩
      · exact ⟨true, _, _, _, _, _, _, rfl, rfl, by decide⟩
end SPL
