/-! slips -/
section SLIPS
variable {n lim t A : Nat} {P : PG} {c fi se nx ot kf b ms sc sw : Nat → Int32} {rs ssz : Int32} {p : Nat → Bool} {s0 : AS}
theorem x_unfelt (first : Bool) (hA : A ≤ lim) (hlim : lim ≤ 2000) (hst0 : s0.2.1 = 0) (hend : A = lim ∨ (it n P (absN kf) (absN b) A s0).2.2.1 = n) (hn : n ≤ 120) (hpl : ∀ i, i < A → (it n P (absN kf) (absN b) i s0).2.2.1 < n) {y21 : Nat → Int32}
    (hstep : ∀ i, i < A → ∀ f : Nat → Int32, R6 f (it n P (absN kf) (absN b) i s0).1.1 → ∃ f', f_X0_step 1 f (nI (it n P (absN kf) (absN b) i s0).1.2.1) (nI (it n P (absN kf) (absN b) i s0).1.2.2.1) (nI (it n P (absN kf) (absN b) i s0).1.2.2.2) (nI (it n P (absN kf) (absN b) i s0).2.1) (nI (it n P (absN kf) (absN b) i s0).2.2.1) (nI (it n P (absN kf) (absN b) i s0).2.2.2) c fi se nx ot (nI n) kf b rs = some (f', nI (it n P (absN kf) (absN b) (i + 1) s0).1.2.1, nI (it n P (absN kf) (absN b) (i + 1) s0).1.2.2.1, nI (it n P (absN kf) (absN b) (i + 1) s0).1.2.2.2, nI (it n P (absN kf) (absN b) (i + 1) s0).2.1, nI (it n P (absN kf) (absN b) (i + 1) s0).2.2.1, nI (it n P (absN kf) (absN b) (i + 1) s0).2.2.2) ∧ R6 f' (it n P (absN kf) (absN b) (i + 1) s0).1.1)
    (hp : ∀ i, i < A → ∀ (f : Nat → Int32) (k1 k2 : Nat → Int32) (l3 l4 l5 l6 l7 l8 : Int32) (mk : Nat → Int32) (x10 x11 x12 x13 x14 : Int32) (h3 : Nat → Int32) (h4 h5 h6 : Int32), R6 f (it n P (absN kf) (absN b) i s0).1.1 → (p i = false ∧ f_X4_maySlip (nI (it n P (absN kf) (absN b) i s0).2.2.1) c (nI n) = some 0) ∨ (f_X4_maySlip (nI (it n P (absN kf) (absN b) i s0).2.2.1) c (nI n) = some 1 ∧ ∃ u3 u4 u5 u6, f_X0_copy k1 k2 l3 l4 l5 l6 l7 l8 y21 f (nI (it n P (absN kf) (absN b) i s0).1.2.1) (nI (it n P (absN kf) (absN b) i s0).1.2.2.1) (nI (it n P (absN kf) (absN b) i s0).1.2.2.2) (nI (it n P (absN kf) (absN b) i s0).2.1) (nI (it n P (absN kf) (absN b) i s0).2.2.1) (nI (it n P (absN kf) (absN b) i s0).2.2.2) = some u3 ∧ f_X0_step (nI t) u3.2.1 u3.2.2.1 u3.2.2.2.1 u3.2.2.2.2.1 u3.2.2.2.2.2.1 u3.2.2.2.2.2.2.1 u3.2.2.2.2.2.2.2 c fi se nx ot (nI n) kf b rs = some u4 ∧ f_X0_go (nI lim) u4.1 u4.2.1 u4.2.2.1 u4.2.2.2.1 u4.2.2.2.2.1 u4.2.2.2.2.2.1 u4.2.2.2.2.2.2 mk x10 x11 x12 x13 x14 c fi se nx ot (nI n) kf b rs = some u5 ∧ f_X6_holds sc sw ssz h3 h4 h5 h6 u3.1 u5.1 u5.2.1 u5.2.2.1 u5.2.2.2.2.1 u5.2.2.2.2.2.2.1 = some u6 ∧ u6.1 = (if p i = true then 1 else 0))) :
    ∀ (fu r i c0 f0 : Nat) (f : Nat → Int32) (k1 k2 : Nat → Int32) (l3 l4 l5 l6 l7 l8 : Int32) (mk : Nat → Int32) (x10 x11 x12 x13 x14 : Int32) (h3 : Nat → Int32) (h4 h5 h6 : Int32), i + r = A → r < fu → c0 ≤ i → R6 f (it n P (absN kf) (absN b) i s0).1.1 → (first = false ∨ f0 = 0) →
      ∃ u, g_X11_unfelt_21 fu (nI lim) (nI t) (if first = true then 1 else 0) (nI c0) (nI i) c fi se nx ot (nI n) y21 f (nI (it n P (absN kf) (absN b) i s0).1.2.1) (nI (it n P (absN kf) (absN b) i s0).1.2.2.1) (nI (it n P (absN kf) (absN b) i s0).1.2.2.2) (nI (it n P (absN kf) (absN b) i s0).2.1) (nI (it n P (absN kf) (absN b) i s0).2.2.1) (nI (it n P (absN kf) (absN b) i s0).2.2.2) k1 k2 l3 l4 l5 l6 l7 l8 mk x10 x11 x12 x13 x14 sc sw ssz h3 h4 h5 h6 kf b ms rs = some u ∧ u.1 = ansS first (walkS p r i c0 f0) := by
  intro fu
  induction fu with
  | zero => intro r i c0 f0 f k1 k2 l3 l4 l5 l6 l7 l8 mk x10 x11 x12 x13 x14 h3 h4 h5 h6 h1 h2; omega
  | succ fu ih =>
    intro r i c0 f0 f k1 k2 l3 l4 l5 l6 l7 l8 mk x10 x11 x12 x13 x14 h3 h4 h5 h6 g1 g2 g3 hf hfi
    simp only [g_X11_unfelt_21]
    have e128 : r = 0 → ∃ u, g_X11_unfelt_128 (if first = true then 1 else 0) (nI c0) c fi se nx ot (nI n) y21 f (nI (it n P (absN kf) (absN b) i s0).1.2.1) (nI (it n P (absN kf) (absN b) i s0).1.2.2.1) (nI (it n P (absN kf) (absN b) i s0).1.2.2.2) (nI (it n P (absN kf) (absN b) i s0).2.1) (nI (it n P (absN kf) (absN b) i s0).2.2.1) (nI (it n P (absN kf) (absN b) i s0).2.2.2) k1 k2 l3 l4 l5 l6 l7 l8 mk x10 x11 x12 x13 x14 sc sw ssz h3 h4 h5 h6 kf b ms rs = some u ∧ u.1 = ansS first (walkS p r i c0 f0) := by
      intro hr
      subst hr
      unfold g_X11_unfelt_128
      cases first with
      | false => rw [if_neg (show ¬ false = true by decide), if_pos rfl]; exact ⟨_, rfl, rfl⟩
      | true =>
        rw [if_pos (show true = true from rfl), if_neg (by decide)]
        refine ⟨_, rfl, ?_⟩
        have : f0 = 0 := hfi.resolve_left (by decide)
        subst this
        rfl
    rw [ite_le (by omega) (by omega)]
    by_cases hl : lim ≤ i
    · rw [if_pos hl]
      exact e128 (by omega)
    · rw [if_neg hl]
      unfold f_X0_isOver g_X0_isOver_0
      cases r with
      | zero =>
        have hi : i = A := by omega
        have hpn : (it n P (absN kf) (absN b) i s0).2.2.1 = n := by
          rcases hend with q | q
          · omega
          · rw [hi]; exact q
        rw [hpn, ite_lt (by omega) (by omega), if_neg (by omega), Option.bind_some, if_neg (by decide)]
        have := e128 rfl
        rw [hpn] at this
        exact this
      | succ r =>
        have hiA : i < A := by omega
        have hpi := hpl i hiA
        rw [ite_lt (by omega) (by omega), if_pos hpi, Option.bind_some, if_pos rfl]
        have ew : ∀ c1, walkS p (r + 1) i c1 f0 = walkS p r (i + 1) (if p i = true then c1 + 1 else c1) (if p i = true ∧ f0 = 0 then i + 1 else f0) := fun _ => rfl
        have key : ∀ (c1 f1 : Nat) (k1 k2 : Nat → Int32) (l3 l4 l5 l6 l7 l8 : Int32) (mk : Nat → Int32) (x10 x11 x12 x13 x14 : Int32) (h3 : Nat → Int32) (h4 h5 h6 : Int32), c1 ≤ i + 1 → (first = false ∨ f1 = 0) → ∃ u, g_X11_unfelt_113 (g_X11_unfelt_21 fu) (nI lim) (nI t) (if first = true then 1 else 0) (nI c1) (nI i) c fi se nx ot (nI n) y21 f (nI (it n P (absN kf) (absN b) i s0).1.2.1) (nI (it n P (absN kf) (absN b) i s0).1.2.2.1) (nI (it n P (absN kf) (absN b) i s0).1.2.2.2) (nI (it n P (absN kf) (absN b) i s0).2.1) (nI (it n P (absN kf) (absN b) i s0).2.2.1) (nI (it n P (absN kf) (absN b) i s0).2.2.2) k1 k2 l3 l4 l5 l6 l7 l8 mk x10 x11 x12 x13 x14 sc sw ssz h3 h4 h5 h6 kf b ms rs = some u ∧ u.1 = ansS first (walkS p r (i + 1) c1 f1) := by
          intro c1 f1 k1 k2 l3 l4 l5 l6 l7 l8 mk x10 x11 x12 x13 x14 h3 h4 h5 h6 hc1 hf1
          obtain ⟨f', t1, t2⟩ := hstep i hiA f hf
          unfold g_X11_unfelt_113
          rw [t1, Option.bind_some, nI_s]
          exact ih r (i + 1) c1 f1 f' k1 k2 l3 l4 l5 l6 l7 l8 mk x10 x11 x12 x13 x14 h3 h4 h5 h6 (by omega) (by omega) hc1 t2 hf1
        rcases hp i hiA f k1 k2 l3 l4 l5 l6 l7 l8 mk x10 x11 x12 x13 x14 h3 h4 h5 h6 hf with ⟨q0, q1⟩ | ⟨q1, u3, u4, u5, u6, q2, q3, q4, q5, q6⟩
        · rw [q1, Option.bind_some, if_pos rfl, ew, if_neg (show ¬ p i = true by rw [q0]; decide), if_neg (show ¬ (p i = true ∧ f0 = 0) from fun x => absurd (q0.symm.trans x.1) (by decide))]
          exact key c0 f0 k1 k2 l3 l4 l5 l6 l7 l8 mk x10 x11 x12 x13 x14 h3 h4 h5 h6 (by omega) hfi
        · rw [q1, Option.bind_some, if_neg (by decide), q2, Option.bind_some, q3, Option.bind_some, q4, Option.bind_some, q5, Option.bind_some, q6, ew]
          cases hpi2 : p i with
          | false =>
            rw [if_neg (show ¬ false = true by decide), if_pos (show (0 : Int32) = 0 from rfl), if_neg (show ¬ false = true by decide), if_neg (show ¬ (false = true ∧ f0 = 0) from fun x => absurd x.1 (by decide))]
            exact key c0 f0 _ _ _ _ _ _ _ _ _ _ _ _ _ _ _ _ _ _ (by omega) hfi
          | true =>
            rw [if_pos (show true = true from rfl), if_neg (show ¬ (1 : Int32) = 0 by decide), if_pos (show true = true from rfl)]
            cases first with
            | false =>
              rw [if_neg (show ¬ false = true by decide), if_pos (show (0 : Int32) = 0 from rfl), nI_p]
              exact key (c0 + 1) _ _ _ _ _ _ _ _ _ _ _ _ _ _ _ _ _ _ _ (by omega) (Or.inl rfl)
            | true =>
              have hf0 : f0 = 0 := hfi.resolve_left (by decide)
              subst hf0
              rw [if_pos (show true = true from rfl), if_neg (show ¬ (1 : Int32) = 0 by decide), if_pos (show true = true ∧ 0 = 0 from ⟨rfl, rfl⟩)]
              refine ⟨_, rfl, ?_⟩
              show nI (it n P (absN kf) (absN b) i s0).2.1 + 1 = _
              unfold ansS
              rw [if_pos rfl, walkS_pos _ _ _ _ (by omega), if_neg (by omega), it_st, hst0, Nat.zero_add, nI_p]
end SLIPS
