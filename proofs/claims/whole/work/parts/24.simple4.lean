/-! feed, count -/
def byt (v : Int32) (k : Int32) : Int32 := vp_nar .byte ((v >>> (k &&& 31)).toInt8.toInt32)
def put4 (y : Nat → Int32) (p : Nat) (v : Int32) : Nat → Int32 := upd (upd (upd (upd y p (byt v 24)) (p + 1) (byt v 16)) (p + 2) (byt v 8)) (p + 3) (byt v 0)
theorem add_step (v k : Int32) (y : Nat → Int32) {p : Nat} (hp : p < 160) (hk : ¬ k < 0) (fu : Nat) : g_X9_add_3 (fu + 1) v k y (nI p) = g_X9_add_3 fu v (k + (-8)) (upd y p (byt v k)) (nI (p + 1)) := by
  simp only [g_X9_add_3]
  rw [if_neg hk, if_neg (by rw [i_le, nI_toInt (by omega)]; show ¬ (160 : Int) ≤ _; omega), if_pos (vin_nI hp (by omega)), nc p (by omega), nI_s]
  rfl
theorem add_end (v : Int32) (y : Nat → Int32) (q : Int32) (fu : Nat) : g_X9_add_3 (fu + 1) v ((0 : Int32) + (-8)) y q = some (y, q) := by
  simp only [g_X9_add_3]
  rw [if_pos (by decide)]
theorem x_add (v : Int32) (y : Nat → Int32) {p : Nat} (hp : p + 4 ≤ 160) : f_X9_add v y (nI p) = some (put4 y p v, nI (p + 4)) := by
  show g_X9_add_3 (999995 + 1 + 1 + 1 + 1 + 1) v 24 y (nI p) = _
  rw [add_step v 24 y (by omega) (by decide), show (24 : Int32) + (-8) = 16 from rfl, add_step v 16 _ (by omega) (by decide), show (16 : Int32) + (-8) = 8 from rfl, add_step v 8 _ (by omega) (by decide), show (8 : Int32) + (-8) = 0 from rfl, add_step v 0 _ (by omega) (by decide)]
  exact add_end v _ _ 999995
theorem typ_step (v k s : Int32) (y : Nat → Int32) {p : Nat} (hp : p < 160) (hk : ¬ k < 0) (hs : 8 * k = s) (fu : Nat) : g_X12_types_2 (fu + 1) v k y (nI p) = g_X12_types_2 fu v (k + (-1)) (upd y p (byt v s)) (nI (p + 1)) := by
  subst hs
  simp only [g_X12_types_2]
  rw [if_neg hk, if_pos (vin_nI hp (by omega)), nc p (by omega), nI_s]
  rfl
theorem typ_end (v : Int32) (y : Nat → Int32) (q : Int32) (fu : Nat) : g_X12_types_2 (fu + 1) v ((0 : Int32) + (-1)) y q = some (y, q) := by
  simp only [g_X12_types_2]
  rw [if_pos (by decide)]
theorem m_typ (v : Int32) (y : Nat → Int32) {p : Nat} (hp : p + 4 ≤ 160) : f_X12_types v y (nI p) = some (put4 y p v, nI (p + 4)) := by
  show g_X12_types_2 (999995 + 1 + 1 + 1 + 1 + 1) v 3 y (nI p) = _
  rw [typ_step v 3 24 y (by omega) (by decide) rfl, show (3 : Int32) + (-1) = 2 from rfl, typ_step v 2 16 _ (by omega) (by decide) rfl, show (2 : Int32) + (-1) = 1 from rfl, typ_step v 1 8 _ (by omega) (by decide) rfl, show (1 : Int32) + (-1) = 0 from rfl, typ_step v 0 0 _ (by omega) (by decide) rfl]
  exact typ_end v _ _ 999995
theorem byt_rng (v k : Int32) : inR (-128) 127 (byt v k) := by
  unfold byt
  rw [pk_vb]
  generalize (v >>> (k &&& 31)).toInt8 = z
  have e : (z.toInt32).toInt = z.toInt := Int8.toInt_toInt32 z
  have h1 := Int8.le_toInt z
  have h2 := Int8.toInt_lt z
  constructor
  · rw [i_le, e]; show (-128 : Int) ≤ _; omega
  · rw [i_le, e]; show _ ≤ (127 : Int); omega
theorem put4_rng {y : Nat → Int32} (hy : ∀ j, inR (-128) 127 (y j)) (p : Nat) (v : Int32) : ∀ j, inR (-128) 127 (put4 y p v j) := by
  intro j
  unfold put4
  have st : ∀ {f : Nat → Int32} {q : Nat} {x : Int32}, inR (-128) 127 (f j) → inR (-128) 127 x → inR (-128) 127 (upd f q x j) := by
    intro f q x h1 h2
    by_cases h : j = q
    · subst h; rw [upd_same]; exact h2
    · rw [upd_ne h]; exact h1
  exact st (st (st (st (hy j) (byt_rng _ _)) (byt_rng _ _)) (byt_rng _ _)) (byt_rng _ _)
theorem ok_feed : Ok_feed Rel := by
  intro S T s1 s2 s3 s4 s5 hR
  obtain ⟨⟨t1, t2, ⟨n, hn, t3⟩, t4⟩, hv, hr, hs, hp, hm, hb, hk⟩ := hR
  have e20 : nI n + 20 = nI (n + 20) := nI_add n 20
  by_cases h : n + 20 ≤ 160
  · refine ⟨(nI (n + 20), put4 (put4 (put4 (put4 (put4 (T.2.1 7) n s1) (n + 4) s2) (n + 4 + 4) s3) (n + 4 + 4 + 4) s4) (n + 4 + 4 + 4 + 4) s5, nI (n + 20)), (nI (n + 20), put4 (put4 (put4 (put4 (put4 (T.2.1 7) n s1) (n + 4) s2) (n + 4 + 4) s3) (n + 4 + 4 + 4) s4) (n + 4 + 4 + 4 + 4) s5, nI (n + 20)), ?_, ?_, rfl, ⟨rfl, rfl, ⟨n + 20, h, rfl⟩, put4_rng (put4_rng (put4_rng (put4_rng (put4_rng t4 _ _) _ _) _ _) _ _) _ _⟩, hv, hr, hs, hp, hm, hb, hk⟩
    · unfold f_X11_feed g_X11_feed_0 f_X9_hasRoom g_X9_hasRoom_0
      rw [t1, t2, t3, e20, if_neg (by rw [i_lt, nI_toInt (by omega)]; show ¬ (160 : Int) < _; omega), Option.bind_some, if_neg (by decide), x_add s1 _ (by omega), Option.bind_some, x_add s2 _ (by omega), Option.bind_some, x_add s3 _ (by omega), Option.bind_some, x_add s4 _ (by omega), Option.bind_some, x_add s5 _ (by omega)]
      rfl
    · unfold f_X12_feed g_X12_feed_0
      rw [t3, e20, if_pos (by rw [i_le, nI_toInt (by omega)]; show _ ≤ (160 : Int); omega), m_typ s1 _ (by omega), Option.bind_some, m_typ s2 _ (by omega), Option.bind_some, m_typ s3 _ (by omega), Option.bind_some, m_typ s4 _ (by omega), Option.bind_some, m_typ s5 _ (by omega)]
      rfl
  · refine ⟨(-1, (S 1).2 0, (S 1).1 1), (-1, T.2.1 7, T.1 8), ?_, ?_, rfl, ⟨t1, t2, ⟨n, hn, t3⟩, t4⟩, hv, hr, hs, hp, hm, hb, hk⟩
    · unfold f_X11_feed g_X11_feed_0 f_X9_hasRoom g_X9_hasRoom_0
      rw [t2, t3, e20, if_pos (by rw [i_lt, nI_toInt (by omega)]; show (160 : Int) < _; omega)]
      rfl
    · unfold f_X12_feed g_X12_feed_0
      rw [t3, e20, if_neg (by rw [i_le, nI_toInt (by omega)]; show ¬ _ ≤ (160 : Int); omega)]
theorem ok_count : Ok_count Rel := by
  intro S T s1 hR
  have hR0 := hR
  obtain ⟨⟨t1, t2, t3⟩, ⟨v1, v2, v3, vb⟩, ⟨r0, r1, r2⟩, hs, hp, ⟨m1, m2, m3, m4, m5, m6⟩, ⟨b1, b2, b3, b4, b5⟩, hk⟩ := hR
  obtain ⟨r, eM, eX⟩ := tog_m (T.2.1 6)
  suffices h : ∃ r : Int32, f_X11_count s1 ((S 16).1 1) ((S 16).1 2) ((S 16).1 3) ((S 16).1 4) ((S 15).1 10) ((S 1).1 1) ((S 2).2 0) ((S 2).2 1) ((S 2).2 2) ((S 3).1 6) ((S 4).1 6) ((S 5).1 6) = some r ∧ f_X12_count s1 (T.1 0) (T.1 1) (T.1 2) (T.1 3) (T.2.1 4) (T.2.1 5) (T.2.1 6) (T.1 8) (T.2.1 29) (T.1 55) = some r by
    obtain ⟨q, e1, e2⟩ := h
    exact ⟨q, q, e1, e2, rfl, hR0⟩
  unfold f_X11_count g_X11_count_0 f_X12_count g_X12_count_0
  simp only [w_in, m_in, Option.bind_some]
  have big : ∀ {lo : Int32} (_ : (6 : Int32) < lo) (_ : lo ≤ s1), ¬ s1 = 0 ∧ ¬ s1 = 1 ∧ ¬ s1 = 2 ∧ ¬ s1 = 3 ∧ ¬ s1 = 4 ∧ ¬ s1 = 5 ∧ ¬ s1 = 6 := by
    intro lo h1 h2
    rw [i_lt] at h1
    rw [i_le] at h2
    have h1 : (6 : Int) < lo.toInt := h1
    refine ⟨?_, ?_, ?_, ?_, ?_, ?_, ?_⟩ <;> (intro e; rw [e] at h2; revert h2; show ¬ _ ≤ (_ : Int); first | (show ¬ _ ≤ (0 : Int); omega) | (show ¬ _ ≤ (1 : Int); omega) | (show ¬ _ ≤ (2 : Int); omega) | (show ¬ _ ≤ (3 : Int); omega) | (show ¬ _ ≤ (4 : Int); omega) | (show ¬ _ ≤ (5 : Int); omega) | (show ¬ _ ≤ (6 : Int); omega))
  have o1 : ¬ (1 : Int32) = 0 := by decide
  have z0 : (0 : Int32) = 0 := rfl
  have sub : ∀ (lo hi : Nat), hi < lo + 6 → hi < 1000 ∧ lo < 1000 → nI lo ≤ s1 → s1 ≤ nI hi → vin (s1 - nI lo) 6 = true := by
    intro lo hi h1 h2 h3 h4
    obtain ⟨k, hk15, rfl⟩ := of_rng (x := s1) (n := hi) (by omega) (by rw [i_le] at h3 ⊢; rw [nI_toInt (by omega)] at h3; show (0 : Int) ≤ _; omega) h4
    rw [nI_leI (by omega) (by omega)] at h3
    rw [pk_sub h3]
    exact vin_nI (by omega) (by omega)
  by_cases hA : (10 : Int32) ≤ s1 ∧ s1 ≤ 15
  · obtain ⟨n0, n1, n2, n3, n4, n5, n6⟩ := big (by decide) hA.1
    simp only [if_pos hA, if_neg o1, if_neg n0, if_neg n1, if_neg n2, if_neg n3, if_neg n4, if_neg n5, if_neg n6, v3]
    have hi : vin (s1 - 10) 6 = true := sub 10 15 (by omega) ⟨by omega, by omega⟩ hA.1 hA.2
    simp only [if_pos hi]
    exact ⟨_, rfl, rfl⟩
  · by_cases hB : (20 : Int32) ≤ s1 ∧ s1 ≤ 25
    · obtain ⟨n0, n1, n2, n3, n4, n5, n6⟩ := big (by decide) hB.1
      have hi : vin (s1 - 20) 6 = true := sub 20 25 (by omega) ⟨by omega, by omega⟩ hB.1 hB.2
      simp only [if_neg hA, if_pos hB, if_neg o1, if_pos z0, if_neg n0, if_neg n1, if_neg n2, if_neg n3, if_neg n4, if_neg n5, if_neg n6, v2, if_pos hi]
      exact ⟨_, rfl, rfl⟩
    · by_cases hC : (30 : Int32) ≤ s1 ∧ s1 ≤ 35
      · obtain ⟨n0, n1, n2, n3, n4, n5, n6⟩ := big (by decide) hC.1
        have hi : vin (s1 - 30) 6 = true := sub 30 35 (by omega) ⟨by omega, by omega⟩ hC.1 hC.2
        simp only [if_neg hA, if_neg hB, if_pos hC, if_neg o1, if_pos z0, if_neg n0, if_neg n1, if_neg n2, if_neg n3, if_neg n4, if_neg n5, if_neg n6, v1, if_pos hi]
        exact ⟨_, rfl, rfl⟩
      · by_cases hD : (40 : Int32) ≤ s1 ∧ s1 ≤ 42
        · obtain ⟨n0, n1, n2, n3, n4, n5, n6⟩ := big (by decide) hD.1
          simp only [if_neg hA, if_neg hB, if_neg hC, if_pos hD, if_neg o1, if_pos z0, if_neg n0, if_neg n1, if_neg n2, if_neg n3, if_neg n4, if_neg n5, if_neg n6]
          obtain ⟨-, -, -, -, -, a0, -⟩ := r0
          obtain ⟨-, -, -, -, -, a1, -⟩ := r1
          obtain ⟨-, -, -, -, -, a2, -⟩ := r2
          obtain ⟨k, hk42, rfl⟩ := of_rng (x := s1) (n := 42) (by omega) (le_trans32 (by decide) hD.1) hD.2
          have h40 : 40 ≤ k := by have := hD.1; rw [i_le, nI_toInt (by omega)] at this; have : (40 : Int) ≤ _ := this; omega
          rcases (show k = 40 ∨ k = 41 ∨ k = 42 by omega) with rfl | rfl | rfl
          · exact ⟨(S 3).1 6, rfl, by rw [a0]; rfl⟩
          · exact ⟨(S 4).1 6, rfl, by rw [a1]; rfl⟩
          · exact ⟨(S 5).1 6, rfl, by rw [a2]; rfl⟩
        · simp only [if_neg hA, if_neg hB, if_neg hC, if_neg hD, if_pos z0, b1, b2, b3, b4, m5, t2, v3, eX, eM, Option.bind_some]
          by_cases n0 : s1 = 0
          · simp only [if_pos n0]; exact ⟨_, rfl, rfl⟩
          by_cases n1 : s1 = 1
          · simp only [if_neg n0, if_pos n1]; exact ⟨_, rfl, rfl⟩
          by_cases n2 : s1 = 2
          · simp only [if_neg n0, if_neg n1, if_pos n2]; exact ⟨_, rfl, rfl⟩
          by_cases n3 : s1 = 3
          · simp only [if_neg n0, if_neg n1, if_neg n2, if_pos n3]; exact ⟨_, rfl, rfl⟩
          by_cases n4 : s1 = 4
          · simp only [if_neg n0, if_neg n1, if_neg n2, if_neg n3, if_pos n4]; exact ⟨_, rfl, rfl⟩
          by_cases n5 : s1 = 5
          · simp only [if_neg n0, if_neg n1, if_neg n2, if_neg n3, if_neg n4, if_pos n5]; exact ⟨_, rfl, rfl⟩
          by_cases n6 : s1 = 6
          · simp only [if_neg n0, if_neg n1, if_neg n2, if_neg n3, if_neg n4, if_neg n5, if_pos n6]; exact ⟨_, rfl, rfl⟩
          simp only [if_neg n0, if_neg n1, if_neg n2, if_neg n3, if_neg n4, if_neg n5, if_neg n6]
          exact ⟨_, rfl, rfl⟩
