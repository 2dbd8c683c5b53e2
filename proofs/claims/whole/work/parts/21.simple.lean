/-! the simple calls -/
theorem nc (k : Nat) (h : k < 2 ^ 31) : (nI k).toNatClampNeg = k := nI_clamp h
theorem c6_le {i : Nat} (h : i < 6) : ¬ (6 : Int32) ≤ nI i := by
  rw [i_le, nI_toInt (by omega)]; show ¬ (6 : Int) ≤ _; omega
theorem c6_ge : (6 : Int32) ≤ nI 6 := by decide
theorem nI_s (i : Nat) : nI i + 1 = nI (i + 1) := nI_1 i
theorem put_loop (k b m : Nat → Int32) : ∀ (fu i : Nat) (r : Int32), i ≤ 6 → 7 ≤ fu + i → isB r → (r = 0 → ∀ j, j < i → ¬ k j = 1 ∧ ¬ k j = 3) → ∃ r', g_X10_put_30 fu (nI i) k b m r = some (k, b, m, r') ∧ isB r' ∧ (r' = 0 → ∀ j, j < 6 → ¬ k j = 1 ∧ ¬ k j = 3) := by
  intro fu
  induction fu with
  | zero => intro i r h1 h2; omega
  | succ fu ih =>
    intro i r h1 h2 hb hr
    rcases Nat.lt_or_ge i 6 with hi | hi
    · have e : g_X10_put_30 (fu + 1) (nI i) k b m r = (if (k i) = 1 then g_X10_put_64 (g_X10_put_30 fu) (nI i) r k b m r else (if (k i) = 3 then g_X10_put_64 (g_X10_put_30 fu) (nI i) r k b m r else (if zB (r ||| 0) = true then g_X10_put_30 fu (nI i + 1) k b m (r ||| 0) else none))) := by
        show (if 6 ≤ nI i then _ else (if vin (nI i) 6 = true then (if (k (nI i).toNatClampNeg) = 1 then _ else (if (k (nI i).toNatClampNeg) = 3 then _ else _)) else none)) = _
        rw [if_neg (c6_le hi), if_pos (vin_nI hi (by omega)), nc i (by omega)]
      have hset : ∀ r1 : Int32, r1 = 1 → ∃ r', g_X10_put_64 (g_X10_put_30 fu) (nI i) r k b m r = some (k, b, m, r') ∧ isB r' ∧ (r' = 0 → ∀ j, j < 6 → ¬ k j = 1 ∧ ¬ k j = 3) := by
        intro r1 _
        have e1 : r ||| 1 = 1 := by rcases hb with rfl | rfl <;> decide
        show ∃ r', (if zB (r ||| 1) = true then g_X10_put_30 fu (nI i + 1) k b m (r ||| 1) else none) = some (k, b, m, r') ∧ _
        rw [e1, if_pos (by decide), nI_s]
        exact ih (i + 1) 1 (by omega) (by omega) (Or.inr rfl) (fun h => absurd h (by decide))
      rw [e]
      by_cases k1 : k i = 1
      · rw [if_pos k1]; exact hset 1 rfl
      · rw [if_neg k1]
        by_cases k3 : k i = 3
        · rw [if_pos k3]; exact hset 1 rfl
        · rw [if_neg k3]
          have e0 : r ||| 0 = r := by rcases hb with rfl | rfl <;> decide
          have ez : zB r = true := by rcases hb with rfl | rfl <;> decide
          rw [e0, if_pos ez, nI_s]
          refine ih (i + 1) r (by omega) (by omega) hb (fun h j hj => ?_)
          rcases Nat.lt_or_ge j i with q | q
          · exact hr h j q
          · rw [show j = i by omega]; exact ⟨k1, k3⟩
    · have hi6 : i = 6 := by omega
      subst hi6
      refine ⟨r, ?_, hb, hr⟩
      simp only [g_X10_put_30]
      rw [if_pos c6_ge]
theorem inR_nI {x : Int32} {n : Nat} (hn : n < 2 ^ 31) (h : inR 0 (nI n) x) : ∃ k : Nat, k ≤ n ∧ x = nI k := of_rng hn h.1 h.2
theorem upd_same (f : Nat → Int32) (k : Nat) (x : Int32) : upd f k x k = x := if_pos rfl
theorem upd_ne {f : Nat → Int32} {k j : Nat} {x : Int32} (h : j ≠ k) : upd f k x j = f j := if_neg h
theorem ok_seed : Ok_seed Rel := by
  intro S T s1 hR
  obtain ⟨ht, hv, hr, hs, hp, hm, ⟨b1, b2, b3, b4, b5, b6⟩, hk⟩ := hR
  by_cases h : (0 : Int32) ≤ s1 ∧ s1 ≤ 65535
  · refine ⟨(1, s1), (1, s1), ?_, ?_, rfl, ht, hv, hr, hs, hp, hm, ⟨b1, b2, b3, rfl, h, b6⟩, hk⟩
    · show (f_X11_within s1 0 65535).bind _ = _
      rw [w_in, if_pos h]; rfl
    · show (f_X12_in s1 0 65535).bind _ = _
      rw [m_in, if_pos h]; rfl
  · refine ⟨(0, (S 16).1 4), (0, T.1 0), ?_, ?_, rfl, ht, hv, hr, hs, hp, hm, ⟨b1, b2, b3, b4, b5, b6⟩, hk⟩
    · show (f_X11_within s1 0 65535).bind _ = _
      rw [w_in, if_neg h]; rfl
    · show (f_X12_in s1 0 65535).bind _ = _
      rw [m_in, if_neg h]; rfl
theorem ok_vat : Ok_vat Rel := by
  intro S T s1 s2 s3 s4 hR
  obtain ⟨ht, ⟨v1, v2, v3, vb, vr1, vr0⟩, hr, hs, hp, hm, hb, hk⟩ := hR
  have bad : ∀ (_ : ¬ (((0 : Int32) ≤ s1 ∧ s1 ≤ 5) ∧ ((0 : Int32) ≤ s2 ∧ s2 ≤ 3) ∧ ((0 : Int32) ≤ s3 ∧ s3 ≤ 99) ∧ ((0 : Int32) ≤ s4 ∧ s4 ≤ s3))), f_X11_vat s1 s2 s3 s4 ((S 2).2 0) ((S 2).2 1) ((S 2).2 2) ((S 2).1 3) = some (0, (S 2).2 0, (S 2).2 1, (S 2).2 2, (S 2).1 3) ∧ f_X12_vat s1 s2 s3 s4 (T.2.1 4) (T.2.1 5) (T.2.1 6) = some (0, T.2.1 4, T.2.1 5, T.2.1 6) := by
    intro h
    constructor
    · show (f_X11_within s1 0 5).bind _ = _
      simp only [w_in, Option.bind_some]
      by_cases h1 : (0 : Int32) ≤ s1 ∧ s1 ≤ 5
      · by_cases h2 : (0 : Int32) ≤ s2 ∧ s2 ≤ 3
        · by_cases h3 : (0 : Int32) ≤ s3 ∧ s3 ≤ 99
          · have h4 : ¬ ((0 : Int32) ≤ s4 ∧ s4 ≤ s3) := fun h4 => h ⟨h1, h2, h3, h4⟩
            simp only [if_pos h1, if_pos h2, if_pos h3, if_neg h4]; rfl
          · simp only [if_pos h1, if_pos h2, if_neg h3]; rfl
        · simp only [if_pos h1, if_neg h2]; rfl
      · simp only [if_neg h1]; rfl
    · show (f_X12_isVat s1).bind _ = _
      simp only [m_isVat, m_in, Option.bind_some]
      by_cases h1 : (0 : Int32) ≤ s1 ∧ s1 ≤ 5
      · by_cases h2 : (0 : Int32) ≤ s2 ∧ s2 ≤ 3
        · by_cases h3 : (0 : Int32) ≤ s3 ∧ s3 ≤ 99
          · have h4 : ¬ ((0 : Int32) ≤ s4 ∧ s4 ≤ s3) := fun h4 => h ⟨h1, h2, h3, h4⟩
            simp only [if_pos h1, if_pos h2, if_pos h3, if_neg h4]; rfl
          · simp only [if_pos h1, if_pos h2, if_neg h3]; rfl
        · simp only [if_pos h1, if_neg h2]; rfl
      · simp only [if_neg h1]; rfl
  by_cases h : (((0 : Int32) ≤ s1 ∧ s1 ≤ 5) ∧ ((0 : Int32) ≤ s2 ∧ s2 ≤ 3) ∧ ((0 : Int32) ≤ s3 ∧ s3 ≤ 99) ∧ ((0 : Int32) ≤ s4 ∧ s4 ≤ s3))
  · obtain ⟨h1, h2, h3, h4⟩ := h
    obtain ⟨j, hj, rfl⟩ := of_rng (x := s1) (n := 5) (by omega) h1.1 h1.2
    have hvj : vin (nI j) 6 = true := vin_nI (by omega) (by omega)
    obtain ⟨r, e, hb1, hr0⟩ := put_loop (upd ((S 2).2 0) j s2) (upd ((S 2).2 1) j s3) (upd ((S 2).2 2) j s4) FU 0 0 (by omega) (by unfold FU; omega) (Or.inl rfl) (fun _ i hi => absurd hi (by omega))
    refine ⟨(1, upd ((S 2).2 0) j s2, upd ((S 2).2 1) j s3, upd ((S 2).2 2) j s4, r), (1, upd (T.2.1 4) j s2, upd (T.2.1 5) j s3, upd (T.2.1 6) j s4), ?_, ?_, rfl, ht, ⟨by show upd _ _ _ = upd _ _ _; rw [v1], by show upd _ _ _ = upd _ _ _; rw [v2], by show upd _ _ _ = upd _ _ _; rw [v3], fun i hi => ?_, hb1, ?_⟩, hr, hs, hp, hm, hb, hk⟩
    · show (f_X11_within (nI j) 0 5).bind _ = _
      simp only [w_in, Option.bind_some, if_pos h1, if_pos h2, if_pos h3, if_pos h4]
      show (if vin (nI j) 6 = true then g_X10_put_30 FU 0 (upd _ (nI j).toNatClampNeg s2) (upd _ (nI j).toNatClampNeg s3) (upd _ (nI j).toNatClampNeg s4) 0 else none).bind _ = _
      rw [if_pos hvj, nc j (by omega)]
      have e' : g_X10_put_30 FU 0 (upd ((S 2).2 0) j s2) (upd ((S 2).2 1) j s3) (upd ((S 2).2 2) j s4) 0 = _ := e
      rw [e']; rfl
    · show (f_X12_isVat (nI j)).bind _ = _
      simp only [m_isVat, m_in, Option.bind_some, if_pos h1, if_pos h2, if_pos h3, if_pos h4]
      show (if vin (nI j) 6 = true then some (1, (upd _ (nI j).toNatClampNeg s2), (upd _ (nI j).toNatClampNeg s3), (upd _ (nI j).toNatClampNeg s4)) else none) = _
      rw [if_pos hvj, nc j (by omega)]
    · show inR 0 3 (upd (T.2.1 4) j s2 i) ∧ inR 0 99 (upd (T.2.1 5) j s3 i) ∧ inR 0 (upd (T.2.1 5) j s3 i) (upd (T.2.1 6) j s4 i)
      by_cases hij : i = j
      · subst hij
        rw [upd_same, upd_same, upd_same]
        exact ⟨h2, h3, h4⟩
      · rw [upd_ne hij, upd_ne hij, upd_ne hij]
        exact vb i hi
    · show r = 0 → ∀ i, i < 6 → ¬ upd (T.2.1 4) j s2 i = 1 ∧ ¬ upd (T.2.1 4) j s2 i = 3
      rw [← v1]
      exact hr0
  · obtain ⟨e1, e2⟩ := bad h
    exact ⟨_, _, e1, e2, rfl, ht, ⟨v1, v2, v3, vb, vr1, vr0⟩, hr, hs, hp, hm, hb, hk⟩
