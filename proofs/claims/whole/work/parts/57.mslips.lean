section MSLIPS
variable {w n lim t A : Nat} {P : PG} {kf b ms op a bb lo co : Nat → Int32} {rs sm : Int32} {p : Nat → Bool} {s0 : AS}
/-- the reference's isNotFelt: its way to the step -/
theorem m_notFelt {i : Nat} (hw3 : w < 3) (hn : n ≤ 120) (hlo : lo w = nI n) (hw : PWf n P) (hm : RMo w n P op a bb) (hV : RV kf b ms rs) (hGS : GS n P (absN b) s0) (hst0 : s0.2.1 = 0) (hi : i < 2000) (hpl : ∀ j, j ≤ i → (it n P (absN kf) (absN b) j s0).2.2.1 < n) {y35 h1 h2 : Nat → Int32} {Q : Option (Int32 × (Nat → Int32) × (Nat → Int32) × (Nat → Int32) × (Nat → Int32) × Int32 × Int32 × Int32 × Int32 × Int32 × Int32) → Prop}
    (hQ : ∀ f : Nat → Int32, R6 f (it n P (absN kf) (absN b) i s0).1.1 → Q ((f_X12_isActAt (nI w) op lo (nI (it n P (absN kf) (absN b) i s0).2.2.1)).bind (fun u1 => (if u1 = 0 then some (0, h1, h2, y35, f, nI (it n P (absN kf) (absN b) i s0).2.2.1, nI (it n P (absN kf) (absN b) i s0).2.1, nI (it n P (absN kf) (absN b) i s0).1.2.1, nI (it n P (absN kf) (absN b) i s0).1.2.2.1, nI (it n P (absN kf) (absN b) i s0).1.2.2.2, nI (it n P (absN kf) (absN b) i s0).2.2.2) else (f_X12_steps (nI w) (nI t) kf b op a bb lo f (nI (it n P (absN kf) (absN b) i s0).2.2.1) (nI (it n P (absN kf) (absN b) i s0).2.1) (nI (it n P (absN kf) (absN b) i s0).1.2.1) (nI (it n P (absN kf) (absN b) i s0).1.2.2.1) (nI (it n P (absN kf) (absN b) i s0).1.2.2.2) (nI (it n P (absN kf) (absN b) i s0).2.2.2)).bind (fun u2 => (f_X12_runsOn (nI w) (nI lim) kf b op a bb lo u2.1 u2.2.1 u2.2.2.1 u2.2.2.2.1 u2.2.2.2.2.1 u2.2.2.2.2.2.1 u2.2.2.2.2.2.2).bind (fun u3 => (f_X12_specHolds sm co h1 h2 y35 u3.1 u3.2.2.1 u3.2.2.2.1 u3.2.2.2.2.1 u3.2.2.2.2.2.2).bind (fun u4 => (if zB u4.1 = true then some (u4.1, u4.2.1, u4.2.2, y35, u3.1, u3.2.1, u3.2.2.1, u3.2.2.2.1, u3.2.2.2.2.1, u3.2.2.2.2.2.1, u3.2.2.2.2.2.2) else none)))))))) :
    ∀ (fu j : Nat) (f : Nat → Int32), j ≤ i → i - j < fu → R6 f (it n P (absN kf) (absN b) j s0).1.1 → Q (g_X12_isNotFelt_13 fu (nI w) (nI lim) (nI (i + 1)) (nI t) kf b ms sm co h1 h2 op a bb lo y35 f (nI (it n P (absN kf) (absN b) j s0).2.2.1) (nI (it n P (absN kf) (absN b) j s0).2.1) (nI (it n P (absN kf) (absN b) j s0).1.2.1) (nI (it n P (absN kf) (absN b) j s0).1.2.2.1) (nI (it n P (absN kf) (absN b) j s0).1.2.2.2) (nI (it n P (absN kf) (absN b) j s0).2.2.2)) := by
  obtain ⟨k1, k2, k3, k4, k5, k6⟩ := RV_abs hV
  intro fu
  induction fu with
  | zero => intro j f h1 h2; omega
  | succ fu ih =>
    intro j f g1 g2 hf
    simp only [g_X12_isNotFelt_13]
    have est : (it n P (absN kf) (absN b) j s0).2.1 = j := by rw [it_st, hst0, Nat.zero_add]
    rw [show nI (i + 1) - 1 = nI i from nI_m (by omega), est, ite_le (by omega) (by omega)]
    by_cases hji : i ≤ j
    · have hj : j = i := by omega
      subst hj
      rw [if_pos hji]
      have := hQ f hf
      rw [est] at this
      exact this
    · rw [if_neg hji]
      have hg : GS n P (absN b) (it n P (absN kf) (absN b) j s0) := GS_it hw j s0 hGS (fun j' hj' => hpl j' (by omega))
      obtain ⟨f', p', t1, t2, t3, t4⟩ := m_stepG hw3 hn hlo hw hm k1 k2 k3 hf hg (hpl j g1) 1 (by omega)
      have hn1 := hpl (j + 1) (by omega)
      have hg1 : GS n P (absN b) (it n P (absN kf) (absN b) (j + 1) s0) := GS_it hw (j + 1) s0 hGS (fun j' hj' => hpl j' (by omega))
      have hen := GS_en hg1 hn1
      rw [it_succ] at hen hn1
      have t3' := t3 hen
      subst t3'
      rw [est] at t1
      have t1' : f_X12_steps (nI w) 1 kf b op a bb lo f (nI (it n P (absN kf) (absN b) j s0).2.2.1) (nI j) (nI (it n P (absN kf) (absN b) j s0).1.2.1) (nI (it n P (absN kf) (absN b) j s0).1.2.2.1) (nI (it n P (absN kf) (absN b) j s0).1.2.2.2) (nI (it n P (absN kf) (absN b) j s0).2.2.2) = _ := t1
      rw [t1', Option.bind_some]
      have := ih (j + 1) f' (by omega) (by omega) (by rw [it_succ]; exact t2)
      rw [it_succ] at this
      exact this
theorem m_slips (v3 : Int32) (hv : ((v3 - v3 / 2 * 2) = 0 ∧ t = 0) ∨ (¬ (v3 - v3 / 2 * 2) = 0 ∧ t = 2)) (first : Bool) (hfi : 2 ≤ v3 ↔ first = true) (hA : A ≤ 2000)
    (hp : ∀ i, i < A → ∀ (h1 h2 y35 y36 : Nat → Int32) (e1 e2 e3 e4 e5 e6 : Int32), ∃ u, f_X12_isNotFelt (nI w) (nI lim) (nI (i + 1)) (nI t) kf b ms sm co h1 h2 op a bb lo y35 y36 e1 e2 e3 e4 e5 e6 = some u ∧ u.1 = (if p i = true then 1 else 0)) :
    ∀ (fu r i c0 f0 : Nat) (h1 h2 y35 y36 : Nat → Int32) (e1 e2 e3 e4 e5 e6 : Int32), i + r = A → r < fu → f0 ≤ A →
      ∃ u, g_X12_slips_59 fu (nI w) (nI lim) v3 (nI A) (nI c0) (if f0 = 0 then -2 else nI f0) (nI (i + 1)) kf b ms sm co h1 h2 op a bb lo y35 y36 e1 e2 e3 e4 e5 e6 = some u ∧ u.1 = ansS first (walkS p r i c0 f0) := by
  intro fu
  induction fu with
  | zero => intro r i c0 f0 h1 h2 y35 y36 e1 e2 e3 e4 e5 e6 g1 g2; omega
  | succ fu ih =>
    intro r i c0 f0 h1 h2 y35 y36 e1 e2 e3 e4 e5 e6 g1 g2 g3
    simp only [g_X12_slips_59]
    rw [ite_lt (by omega) (by omega)]
    cases r with
    | zero =>
      rw [if_pos (by omega)]
      rw [show walkS p 0 i c0 f0 = (c0, f0) from rfl]
      unfold ansS
      cases first with
      | false => rw [if_neg (fun x => absurd (hfi.mp x) (by decide)), if_neg (by decide)]; exact ⟨_, rfl, rfl⟩
      | true => rw [if_pos (hfi.mpr rfl), if_pos rfl]; exact ⟨_, rfl, rfl⟩
    | succ r =>
      rw [if_neg (by omega)]
      obtain ⟨u, q1, q2⟩ := hp i (by omega) h1 h2 y35 y36 e1 e2 e3 e4 e5 e6
      have key : ∃ u, g_X12_slips_82 (g_X12_slips_59 fu) (nI w) (nI lim) v3 (nI A) (nI c0) (if f0 = 0 then -2 else nI f0) (nI (i + 1)) (nI w) (nI lim) (nI (i + 1)) (nI t) kf b ms sm co h1 h2 op a bb lo y35 y36 e1 e2 e3 e4 e5 e6 = some u ∧ u.1 = ansS first (walkS p (r + 1) i c0 f0) := by
        unfold g_X12_slips_82
        rw [q1, Option.bind_some, q2]
        have ew : walkS p (r + 1) i c0 f0 = walkS p r (i + 1) (if p i = true then c0 + 1 else c0) (if p i = true ∧ f0 = 0 then i + 1 else f0) := rfl
        rw [ew, nI_s]
        cases hpi : p i with
        | false =>
          rw [if_neg (show ¬ false = true by decide), if_pos (show (0 : Int32) = 0 from rfl), if_neg (show ¬ false = true by decide), if_neg (show ¬ (false = true ∧ f0 = 0) from fun x => absurd x.1 (by decide))]
          exact ih r (i + 1) c0 f0 _ _ _ _ _ _ _ _ _ _ (by omega) (by omega) g3
        | true =>
          rw [if_pos (show true = true from rfl), if_neg (show ¬ (1 : Int32) = 0 by decide), if_pos (show true = true from rfl), nI_p]
          by_cases h0 : f0 = 0
          · have hz := ih r (i + 1) (c0 + 1) (i + 1) u.2.1 u.2.2.1 u.2.2.2.1 u.2.2.2.2.1 u.2.2.2.2.2.1 u.2.2.2.2.2.2.1 u.2.2.2.2.2.2.2.1 u.2.2.2.2.2.2.2.2.1 u.2.2.2.2.2.2.2.2.2.1 u.2.2.2.2.2.2.2.2.2.2 (by omega) (by omega) (by omega)
            rw [if_neg (show ¬ i + 1 = 0 by omega)] at hz
            rw [if_pos h0, if_pos rfl, if_pos ⟨rfl, h0⟩]
            exact hz
          · have hz := ih r (i + 1) (c0 + 1) f0 u.2.1 u.2.2.1 u.2.2.2.1 u.2.2.2.2.1 u.2.2.2.2.2.1 u.2.2.2.2.2.2.1 u.2.2.2.2.2.2.2.1 u.2.2.2.2.2.2.2.2.1 u.2.2.2.2.2.2.2.2.2.1 u.2.2.2.2.2.2.2.2.2.2 (by omega) (by omega) g3
            rw [if_neg h0] at hz
            rw [if_neg h0, if_neg (show ¬ nI f0 = -2 from fun x => by rw [i_eq, nI_toInt (by omega)] at x; have e2 : (-2 : Int32).toInt = -2 := rfl; omega), if_neg (fun x => h0 x.2)]
            exact hz
      rcases hv with ⟨a1, a2⟩ | ⟨a1, a2⟩
      · subst a2
        rw [if_pos a1]
        exact key
      · subst a2
        rw [if_neg a1]
        exact key
end MSLIPS
