theorem upd_self (f : Nat → Int32) (k : Nat) : upd f k (f k) = f := by
  funext j
  by_cases h : j = k
  · subst h; exact upd_same _ _ _
  · exact upd_ne h
theorem rem32 {a d : Nat} (ha : a < 2 ^ 31) (h0 : 0 < d) (hd : d < 2 ^ 31) (dd : Int32) (e : dd = nI d) : nI a - nI a / dd * dd = nI (a % d) := by rw [e]; exact pk_rem ha h0 hd
theorem div32 {a d : Nat} (ha : a < 2 ^ 31) (h0 : 0 < d) (hd : d < 2 ^ 31) (dd : Int32) (e : dd = nI d) : nI a / dd = nI (a / d) := by rw [e]; exact pk_div ha h0 hd
/-- one up, one down, within a brim of at most 99 -/
theorem up1 {x b : Int32} (h0 : 0 ≤ x) (h1 : x < b) (hb : b ≤ 99) : inR 0 b (x + 1) := by
  rw [i_le] at h0 hb
  rw [i_lt] at h1
  have h0 : (0 : Int) ≤ x.toInt := h0
  have hb : b.toInt ≤ (99 : Int) := hb
  have e : (x + 1).toInt = x.toInt + 1 := by
    rw [Int32.toInt_add]
    show (x.toInt + 1).bmod (2 ^ 32) = _
    apply Int.bmod_eq_of_le <;> omega
  constructor
  · rw [i_le, e]; show (0 : Int) ≤ _; omega
  · rw [i_le, e]; omega
theorem dn1 {x b : Int32} (h0 : 0 ≤ x) (hz : ¬ x = 0) (h1 : x ≤ b) : inR 0 b (x - 1) := by
  rw [i_le] at h0 h1
  rw [i_eq] at hz
  have h0 : (0 : Int) ≤ x.toInt := h0
  have hz : ¬ x.toInt = (0 : Int) := hz
  have h2 := Int32.toInt_lt x
  have e : (x - 1).toInt = x.toInt - 1 := by
    rw [Int32.toInt_sub]
    show (x.toInt - 1).bmod (2 ^ 32) = _
    apply Int.bmod_eq_of_le <;> omega
  constructor
  · rw [i_le, e]; show (0 : Int) ≤ _; omega
  · rw [i_le, e]; omega
theorem night_loop (b : Nat → Int32) (sp : Int32) (hb9 : ∀ j, j < 6 → b j ≤ 99) {n : Nat} (hn : n ≤ 40) : ∀ (fu i : Nat) (acc : Int32) (x : Nat) (m : Nat → Int32), i ≤ n → n + 1 ≤ fu + i → x < 65536 → (∀ j, j < 6 → inR 0 (b j) (m j)) →
    ∃ (a' : Int32) (x' : Nat) (m' : Nat → Int32), x' < 65536 ∧ (∀ j, j < 6 → inR 0 (b j) (m' j)) ∧ g_X11_night_16 fu (nI n) acc (nI i) sp (nI x) b m = some (a', sp + a', nI x', m') ∧ g_X12_night_16 fu (nI n) acc (nI i) (nI x) sp b m = some (a', nI x', sp + a', m') := by
  intro fu
  induction fu with
  | zero => intro i acc x m h1 h2; omega
  | succ fu ih =>
    intro i acc x m h1 h2 hx hm
    simp only [g_X11_night_16, g_X12_night_16]
    rcases Nat.lt_or_ge i n with hi | hi
    · have h3 : ¬ nI n ≤ nI i := by rw [nI_leI (by omega) (by omega)]; omega
      rw [if_neg h3, if_neg h3]
      have e1 : (25173 : Int32) * nI x + 13849 = nI (25173 * x + 13849) := by rw [show (25173 : Int32) = nI 25173 from rfl, pk_mul, show (13849 : Int32) = nI 13849 from rfl, nI_add]
      rw [e1, rem32 (by omega) (d := 65536) (by omega) (by omega) 65536 rfl]
      generalize ht : (25173 * x + 13849) % 65536 = t
      have htl : t < 65536 := by rw [← ht]; exact Nat.mod_lt _ (by omega)
      rw [rem32 (a := t) (by omega) (d := 6) (by omega) (by omega) 6 rfl, div32 (a := t) (by omega) (d := 6) (by omega) (by omega) 6 rfl, rem32 (a := t / 6) (by omega) (d := 2) (by omega) (by omega) 2 rfl]
      generalize hv : t % 6 = v
      have hvl : v < 6 := by rw [← hv]; exact Nat.mod_lt _ (by omega)
      have hvin := vin_nI hvl (n := 6) (by omega)
      have hclamp := nc v (by omega)
      obtain ⟨hm0, hm1⟩ := hm v hvl
      have keep : ∀ y : Int32, inR 0 (b v) y → ∀ j, j < 6 → inR 0 (b j) (upd m v y j) := by
        intro y hy j hj
        by_cases h : j = v
        · subst h; rw [upd_same]; exact hy
        · rw [upd_ne h]; exact hm j hj
      have o1 : ¬ (1 : Int32) = 0 := by decide
      by_cases hc : nI (t / 6 % 2) = 0
      · by_cases hq : m v < b v
        · have hq' : ¬ b v ≤ m v := by rw [i_lt] at hq; rw [i_le]; omega
          simp only [if_pos hc, g_X11_night_79, f_X11_pourAtNight, g_X11_pourAtNight_0, g_X12_night_67, if_neg o1, if_pos hvin, hclamp, if_pos hq, if_neg hq', Option.bind_some, nI_s, Int32.add_zero]
          exact ih (i + 1) acc t _ (by omega) (by omega) htl (keep _ (up1 hm0 hq (hb9 v hvl)))
        · have hq' : b v ≤ m v := by rw [i_lt] at hq; rw [i_le]; omega
          simp only [if_pos hc, g_X11_night_79, f_X11_pourAtNight, g_X11_pourAtNight_0, g_X12_night_67, g_X12_night_110, g_X12_night_128, g_X12_night_151, if_neg o1, if_pos hvin, hclamp, if_neg hq, if_pos hq', Option.bind_some, nI_s, Int32.sub_zero, upd_self]
          exact ih (i + 1) (acc + 1) t m (by omega) (by omega) htl hm
      · by_cases hq : m v = 0
        · simp only [if_neg hc, g_X11_night_79, f_X11_pourAtNight, g_X11_pourAtNight_0, g_X12_night_67, g_X12_night_110, if_true, if_pos hvin, hclamp, if_pos hq, Option.bind_some, nI_s, Int32.add_zero]
          exact ih (i + 1) acc t m (by omega) (by omega) htl hm
        · simp only [if_neg hc, g_X11_night_79, f_X11_pourAtNight, g_X11_pourAtNight_0, g_X12_night_67, g_X12_night_110, g_X12_night_128, g_X12_night_151, if_true, if_pos hvin, hclamp, if_neg hq, Option.bind_some, nI_s]
          exact ih (i + 1) (acc + 1) t _ (by omega) (by omega) htl (keep _ (dn1 hm0 hq hm1))
    · have h3 : nI n ≤ nI i := by rw [nI_leI (by omega) (by omega)]; omega
      rw [if_pos h3, if_pos h3]
      exact ⟨acc, x, m, hx, hm, rfl, rfl⟩
theorem ok_night : Ok_night Rel := by
  intro S T s1 hR
  have hR0 := hR
  obtain ⟨ht, ⟨v1, v2, v3, vb, vr1, vr0⟩, hr, hs, hp, hm, ⟨b1, b2, b3, b4, b5, b6⟩, hk⟩ := hR
  by_cases h : (1 : Int32) ≤ s1 ∧ s1 ≤ 40
  · obtain ⟨n, hn, rfl⟩ := of_rng (x := s1) (n := 40) (by omega) (le_trans32 (by decide) h.1) h.2
    obtain ⟨x, hx, ex⟩ := of_rng (x := T.1 0) (n := 65535) (by omega) b5.1 b5.2
    obtain ⟨a', x', m', hx', hm', e1, e2⟩ := night_loop (T.2.1 5) (T.1 1) (fun j hj => (vb j hj).2.1.2) hn FU 0 0 x (T.2.1 6) (by omega) (by unfold FU; omega) (by omega) (fun j hj => (vb j hj).2.2)
    refine ⟨(a', T.1 1 + a', nI x', m'), (a', nI x', T.1 1 + a', m'), ?_, ?_, rfl, ht, ⟨v1, v2, rfl, fun j hj => ⟨(vb j hj).1, (vb j hj).2.1, hm' j hj⟩, vr1, vr0⟩, hr, hs, hp, hm, ⟨rfl, b2, b3, rfl, ⟨?_, ?_⟩, b6⟩, hk⟩
    · unfold f_X11_night g_X11_night_0
      rw [w_in, if_pos h, Option.bind_some, if_neg (by decide), b1, b4, v2, v3, ex]
      exact e1
    · unfold f_X12_night g_X12_night_0
      rw [m_in, if_pos h, Option.bind_some, if_neg (by decide), ex]
      exact e2
    · show (0 : Int32) ≤ nI x'
      rw [i_le, nI_toInt (by omega)]; show (0 : Int) ≤ _; omega
    · show nI x' ≤ 65535
      rw [i_le, nI_toInt (by omega)]; show _ ≤ (65535 : Int); omega
  · refine ⟨(-1, (S 16).1 1, (S 16).1 4, (S 2).2 2), (-1, T.1 0, T.1 1, T.2.1 6), ?_, ?_, rfl, ht, ⟨v1, v2, v3, vb, vr1, vr0⟩, hr, hs, hp, hm, ⟨b1, b2, b3, b4, b5, b6⟩, hk⟩
    · unfold f_X11_night g_X11_night_0
      rw [w_in, if_neg h]; rfl
    · unfold f_X12_night g_X12_night_0
      rw [m_in, if_neg h]; rfl
