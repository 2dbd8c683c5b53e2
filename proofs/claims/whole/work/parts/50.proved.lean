/-! proved -/
section PROVED
variable {C : Nat → Bool} {bnd : Nat} {B M : Nat → Nat} {p : (Nat → Nat) → Bool} {c fi se nx ot kf b sc sw : Nat → Int32} {sz rs ssz : Int32}
theorem x_unproved (hM : MB B M) (hbnd : bnd ≤ 20) {v3 : Int32} {N : Nat} (hN : N < 1000000) {wy : Nat → Int32} (hwy : R6 wy (waysB C bnd B))
    (hp : ∀ m, InvB C bnd B M m → ∀ (y0 d1 d2 : Nat → Int32) (e3 e4 e5 e6 e7 e8 : Int32) (mk : Nat → Int32) (x10 x11 x12 x13 x14 : Int32) (h3 : Nat → Int32) (h4 h5 h6 : Int32), R6 y0 m → ∃ u1 u2, f_X8_follow y0 d1 d2 e3 e4 e5 e6 e7 e8 mk x10 x11 x12 x13 x14 c fi se nx ot sz kf b rs = some u1 ∧ f_X6_holds sc sw ssz h3 h4 h5 h6 u1.1 u1.2.1 u1.2.2.1 u1.2.2.2.1 u1.2.2.2.2.2.1 u1.2.2.2.2.2.2.2.1 = some u2 ∧ u2.1 = (if p m = true then 0 else 1)) :
    ∀ (fu r i : Nat) (m : Nat → Nat) (c0 : Nat) (f : Nat → Nat) (y0 d1 d2 : Nat → Int32) (e3 e4 e5 e6 e7 e8 : Int32) (mk : Nat → Int32) (x10 x11 x12 x13 x14 : Int32) (h3 : Nat → Int32) (h4 h5 h6 : Int32), i + r = N → r < fu → InvB C bnd B M m → R6 y0 m → (v3 = -1 ∨ (c0 = 0 ∧ ∃ k, k < 6 ∧ v3 = nI k)) →
      ∃ u, g_X8_unproved_6 fu v3 (nI c0) (nI i) y0 wy (nI N) c fi se nx ot sz sc sw ssz h3 h4 h5 h6 d1 d2 e3 e4 e5 e6 e7 e8 mk x10 x11 x12 x13 x14 kf b rs = some u ∧ u.1 = ansB v3 (walkB p (waysB C bnd B) r m c0 f) := by
  intro fu
  induction fu with
  | zero => intro r i m c0 f y0 d1 d2 e3 e4 e5 e6 e7 e8 mk x10 x11 x12 x13 x14 h3 h4 h5 h6 h1 h2; omega
  | succ fu ih =>
    intro r i m c0 f y0 d1 d2 e3 e4 e5 e6 e7 e8 mk x10 x11 x12 x13 x14 h3 h4 h5 h6 h1 h2 hI hy hv
    simp only [g_X8_unproved_6]
    rw [ite_le (by omega) (by omega)]
    cases r with
    | zero =>
      rw [if_pos (by omega)]
      rw [show walkB p (waysB C bnd B) 0 m c0 f = (c0, f) from rfl]
      unfold ansB
      by_cases hv1 : v3 = -1
      · rw [if_pos hv1, if_pos hv1]; exact ⟨_, rfl, rfl⟩
      · rw [if_neg hv1, if_neg hv1, if_pos (hv.resolve_left hv1).1]; exact ⟨_, rfl, rfl⟩
    | succ r =>
      rw [if_neg (by omega)]
      obtain ⟨u1, u2, q1, q2, q3⟩ := hp m hI y0 d1 d2 e3 e4 e5 e6 e7 e8 mk x10 x11 x12 x13 x14 h3 h4 h5 h6 hy
      rw [q1, Option.bind_some, q2, Option.bind_some, q3]
      have key : ∀ (c1 : Nat) (f1 : Nat → Nat), (v3 = -1 ∨ (c1 = 0 ∧ ∃ k, k < 6 ∧ v3 = nI k)) → ∃ u, g_X8_unproved_50 (g_X8_unproved_6 fu) v3 (nI c1) (nI i) y0 wy (nI N) c fi se nx ot sz sc sw ssz u2.2.1 u2.2.2.1 u2.2.2.2.1 u2.2.2.2.2 u1.1 u1.2.1 u1.2.2.1 u1.2.2.2.1 u1.2.2.2.2.1 u1.2.2.2.2.2.1 u1.2.2.2.2.2.2.1 u1.2.2.2.2.2.2.2.1 u1.2.2.2.2.2.2.2.2.1 u1.2.2.2.2.2.2.2.2.2.1 u1.2.2.2.2.2.2.2.2.2.2.1 u1.2.2.2.2.2.2.2.2.2.2.2.1 u1.2.2.2.2.2.2.2.2.2.2.2.2.1 u1.2.2.2.2.2.2.2.2.2.2.2.2.2 kf b rs = some u ∧ u.1 = ansB v3 (walkB p (waysB C bnd B) r (nextB (waysB C bnd B) 6 m).2 c1 f1) := by
        intro c1 f1 hv1
        obtain ⟨y', g1, g2⟩ := x_goOn hwy (fun j _ => by have := waysB_lt (C := C) (B := B) hbnd j; omega) FU 6 y0 m (by omega) (by unfold FU; omega) hy (InvB_1000 hI hM)
        have g1' : f_X8_goOn y0 wy = some y' := g1
        unfold g_X8_unproved_50
        rw [g1', Option.bind_some, nI_s]
        exact ih r (i + 1) _ c1 f1 y' _ _ _ _ _ _ _ _ _ _ _ _ _ _ _ _ _ _ (by omega) (by omega) (InvB_next hI) g2 hv1
      have ew : walkB p (waysB C bnd B) (r + 1) m c0 f = walkB p (waysB C bnd B) r (nextB (waysB C bnd B) 6 m).2 (if p m = true then c0 + 1 else c0) (if p m = true ∧ c0 = 0 then m else f) := rfl
      rw [ew]
      cases hpm : p m with
      | false =>
        rw [if_neg (show ¬ false = true by decide), if_neg (show ¬ (1 : Int32) = 0 by decide), if_neg (show ¬ false = true by decide), if_neg (fun x => absurd x.1 (by decide))]
        exact key c0 f hv
      | true =>
        rw [if_pos (show true = true from rfl), if_pos (show (0 : Int32) = 0 from rfl), if_pos (show true = true from rfl)]
        by_cases hv1 : v3 = -1
        · rw [if_pos hv1, nI_p]
          exact key (c0 + 1) _ (Or.inl hv1)
        · obtain ⟨hc0, k, hk, rfl⟩ := hv.resolve_left hv1
          subst hc0
          rw [if_neg hv1, if_pos (vin_nI hk (by omega)), nc k (by omega), if_pos ⟨rfl, rfl⟩]
          refine ⟨_, rfl, ?_⟩
          obtain ⟨t1, t2⟩ := walkB_pos (p := p) (W := waysB C bnd B) r (nextB (waysB C bnd B) 6 m).2 (0 + 1) m (by omega)
          unfold ansB
          rw [if_neg hv1, if_neg (by omega), t1, nc k (by omega)]
          exact hy k hk
theorem m_proved (hM : MB B M) (hbnd : bnd ≤ 20) {v4 : Int32} (hv : v4 = -1 ∨ ∃ k, k < 6 ∧ v4 = nI k) {msk wv sm : Int32} {ms op a bb lo co : Nat → Int32} (hb : bitB msk C) (hB : R6 b B)
    (hp : ∀ m, InvB C bnd B M m → ∀ (y d1 d2 : Nat → Int32) (e3 e4 e5 e6 e7 e8 : Int32) (h1 h2 : Nat → Int32), R6 y m → ∃ u1 u2, f_X12_runsFrom wv kf b op a bb lo d1 d2 e3 e4 e5 e6 e7 e8 y = some u1 ∧ f_X12_specHolds sm co h1 h2 u1.1 u1.2.1 u1.2.2.2.1 u1.2.2.2.2.1 u1.2.2.2.2.2.1 u1.2.2.2.2.2.2.2 = some u2 ∧ u2.1 = (if p m = true then 0 else 1)) :
    ∀ (fu r : Nat) (m : Nat → Nat) (c0 : Nat) (f : Nat → Nat) (y44 y d1 d2 : Nat → Int32) (e3 e4 e5 e6 e7 e8 : Int32) (h1 h2 : Nat → Int32), r < fu → c0 + r < 90000 → InvB C bnd B M m → R6 y m → (0 < c0 → R6 y44 f) → (0 < r → rkB (waysB C bnd B) 6 m + r = prB (waysB C bnd B) 6) →
      ∃ u, g_X12_proved_37 fu wv msk (nI bnd) v4 (if r = 0 then 0 else 1) kf b ms sm co h1 h2 op a bb lo d1 d2 e3 e4 e5 e6 e7 e8 y y44 (nI c0) = some u ∧ u.1 = ansB v4 (walkB p (waysB C bnd B) r m c0 f) := by
  intro fu
  induction fu with
  | zero => intro r m c0 f y44 y d1 d2 e3 e4 e5 e6 e7 e8 h1 h2 g1; omega
  | succ fu ih =>
    intro r m c0 f y44 y d1 d2 e3 e4 e5 e6 e7 e8 h1 h2 g1 g2 hI hy hf hr
    simp only [g_X12_proved_37]
    cases r with
    | zero =>
      rw [if_pos (show (0 : Nat) = 0 from rfl), if_pos rfl]
      have := m_tells hv y44 (c0, f) (by show c0 < _; omega) hf
      have this' : f_X12_tellsFound v4 y44 (nI c0) = some (ansB v4 (c0, f)) := this
      rw [this', Option.bind_some]
      exact ⟨_, rfl, rfl⟩
    | succ r =>
      rw [if_neg (show ¬ r + 1 = 0 by omega), if_neg (by decide)]
      obtain ⟨u1, u2, q1, q2, q3⟩ := hp m hI y d1 d2 e3 e4 e5 e6 e7 e8 h1 h2 hy
      rw [q1, Option.bind_some, q2, Option.bind_some, q3]
      have ew : walkB p (waysB C bnd B) (r + 1) m c0 f = walkB p (waysB C bnd B) r (nextB (waysB C bnd B) 6 m).2 (if p m = true then c0 + 1 else c0) (if p m = true ∧ c0 = 0 then m else f) := rfl
      have key : ∀ v : Int32, v = (if p m = true then 1 else 0) → ∃ u, g_X12_proved_60 (g_X12_proved_37 fu) wv msk (nI bnd) v4 v kf b ms sm co u2.2.1 u2.2.2 op a bb lo u1.1 u1.2.1 u1.2.2.1 u1.2.2.2.1 u1.2.2.2.2.1 u1.2.2.2.2.2.1 u1.2.2.2.2.2.2.1 u1.2.2.2.2.2.2.2 y y44 (nI c0) = some u ∧ u.1 = ansB v4 (walkB p (waysB C bnd B) (r + 1) m c0 f) := by
        intro v hvv
        unfold g_X12_proved_60
        rw [hvv, m_findsF _ _ _ (by omega), Option.bind_some]
        obtain ⟨y', n1, n2⟩ := m_goesN (C := C) (bnd := bnd) hb hB (fun j hj => (hM j hj).2) hbnd FU 6 y m (by omega) (by unfold FU; omega) hy (fun j hj hc => (hI.1 j (by omega)).1 hc) (InvB_1000 hI hM)
        have n1' : f_X12_goesToNext msk (nI bnd) b y = _ := n1
        obtain ⟨o1, o2⟩ := more_iff hI (r := r) (hr (by omega))
        rw [n1', Option.bind_some, o1, ew]
        have hc1 : (if p m = true then c0 + 1 else c0) ≤ c0 + 1 := by split <;> omega
        refine ih r _ _ _ _ y' _ _ _ _ _ _ _ _ _ _ (by omega) (by omega) (InvB_next hI) n2 (fun hc => ?_) o2
        by_cases h0 : p m = true ∧ c0 = 0
        · rw [if_pos h0, if_pos h0]; exact R6_cpI hy
        · rw [if_neg h0, if_neg h0]
          apply hf
          by_cases hpm : p m = true
          · rcases Nat.eq_zero_or_pos c0 with z | z
            · exact absurd ⟨hpm, z⟩ h0
            · exact z
          · rw [if_neg hpm] at hc; exact hc
      cases hpm : p m with
      | false =>
        rw [if_neg (show ¬ false = true by decide), if_neg (show ¬ (1 : Int32) = 0 by decide)]
        exact key 0 (by rw [hpm]; rfl)
      | true =>
        rw [if_pos (show true = true from rfl), if_pos (show (0 : Int32) = 0 from rfl)]
        exact key 1 (by rw [hpm]; rfl)
end PROVED
/-! masks of vats -/
def chB (k j : Nat) : Bool := decide (((nI k >>> (nI j &&& 31)) &&& 1) = 1)
theorem chB_bit : ∀ k, k < 64 → ∀ j, j < 6 → ((nI k >>> (nI j &&& 31)) &&& 1) = (if chB k j = true then 1 else 0) := by decide +kernel
def bits8 (v : Int32) : Int32 := 0 + ((v >>> ((0 : Int32) &&& 31)) &&& 1) + ((v >>> ((1 : Int32) &&& 31)) &&& 1) + ((v >>> ((2 : Int32) &&& 31)) &&& 1) + ((v >>> ((3 : Int32) &&& 31)) &&& 1) + ((v >>> ((4 : Int32) &&& 31)) &&& 1) + ((v >>> ((5 : Int32) &&& 31)) &&& 1) + ((v >>> ((6 : Int32) &&& 31)) &&& 1) + ((v >>> ((7 : Int32) &&& 31)) &&& 1)
theorem m_bits (v : Int32) : f_X12_bits v = some (bits8 v) := by
  have key : ∀ fu, g_X12_bits_4 (fu + 9) v 0 0 = some (bits8 v) := fun _ => rfl
  exact key 999991
theorem x_bits : ∀ k, k < 256 → f_J6_bitCount_0f7a4 (nI k) = some (bits8 (nI k)) := by decide +kernel
def most3 (k : Nat) : Nat := (if chB k 0 = true then 21 else 1) * (if chB k 1 = true then 21 else 1) * (if chB k 2 = true then 21 else 1) * (if chB k 3 = true then 21 else 1) * (if chB k 4 = true then 21 else 1) * (if chB k 5 = true then 21 else 1)
theorem most3_le : ∀ k, k < 64 → bits8 (nI k) < 4 → most3 k ≤ 9261 := by decide +kernel
theorem prB_le {k bnd : Nat} {B : Nat → Nat} (hk : k < 64) (hb : bits8 (nI k) < 4) (hbnd : bnd ≤ 20) : prB (waysB (chB k) bnd B) 6 ≤ 9261 := by
  refine Nat.le_trans ?_ (most3_le k hk hb)
  have h : ∀ j, waysB (chB k) bnd B j ≤ (if chB k j = true then 21 else 1) := by
    intro j
    unfold waysB
    split <;> omega
  show 1 * _ * _ * _ * _ * _ * _ ≤ _
  rw [Nat.one_mul]
  exact Nat.mul_le_mul (Nat.mul_le_mul (Nat.mul_le_mul (Nat.mul_le_mul (Nat.mul_le_mul (h 0) (h 1)) (h 2)) (h 3)) (h 4)) (h 5)
/-- the arguments of a survey -/
def SV (v b w : Int32) : Prop := ((1 : Int32) ≤ v ∧ v ≤ 63) ∧ bits8 v < 4 ∧ ((1 : Int32) ≤ b ∧ b ≤ 20) ∧ ((-1 : Int32) ≤ w ∧ w ≤ 5)
theorem lt4_iff (x : Int32) : (4 : Int32) ≤ x ↔ ¬ x < 4 := by
  rw [i_le, i_lt]; omega
theorem lt3_iff (x : Int32) : (3 : Int32) < x ↔ ¬ x < 4 := by
  rw [i_lt, i_lt]
  show (3 : Int) < x.toInt ↔ ¬ x.toInt < 4
  omega
theorem x_survey (v b w : Int32) : (SV v b w → f_X11_isSurvey v b w = some 1) ∧ (¬ SV v b w → f_X11_isSurvey v b w = some 0) := by
  unfold f_X11_isSurvey g_X11_isSurvey_0
  rw [w_in]
  by_cases h1 : (1 : Int32) ≤ v ∧ v ≤ 63
  · obtain ⟨k, hk, rfl⟩ := of_rng (x := v) (n := 63) (by omega) (le_trans32 (by decide) h1.1) h1.2
    rw [if_pos h1, Option.bind_some, if_neg (by decide), x_bits k (by omega), Option.bind_some]
    by_cases h2 : bits8 (nI k) < 4
    · rw [if_neg (fun x => (lt3_iff _).mp x h2), w_in]
      by_cases h3 : (1 : Int32) ≤ b ∧ b ≤ 20
      · rw [if_pos h3, Option.bind_some, if_neg (by decide), w_in]
        by_cases h4 : (-1 : Int32) ≤ w ∧ w ≤ 5
        · rw [if_pos h4]; exact ⟨fun _ => rfl, fun h => absurd ⟨h1, h2, h3, h4⟩ h⟩
        · rw [if_neg h4]; exact ⟨fun h => absurd h.2.2.2 h4, fun _ => rfl⟩
      · rw [if_neg h3]; exact ⟨fun h => absurd h.2.2.1 h3, fun _ => rfl⟩
    · rw [if_pos ((lt3_iff _).mpr h2)]; exact ⟨fun h => absurd h.2.1 h2, fun _ => rfl⟩
  · rw [if_neg h1]; exact ⟨fun h => absurd h.1 h1, fun _ => rfl⟩
theorem m_areVats (v b : Int32) : f_X12_areVats v b = some (if ((1 : Int32) ≤ v ∧ v ≤ 63) ∧ bits8 v < 4 ∧ ((1 : Int32) ≤ b ∧ b ≤ 20) then 1 else 0) := by
  unfold f_X12_areVats g_X12_areVats_0
  rw [m_in]
  by_cases h1 : (1 : Int32) ≤ v ∧ v ≤ 63
  · rw [if_pos h1, Option.bind_some, if_neg (by decide), m_bits, Option.bind_some]
    by_cases h2 : bits8 v < 4
    · rw [if_neg (fun x => (lt4_iff _).mp x h2), m_in]
      by_cases h3 : (1 : Int32) ≤ b ∧ b ≤ 20
      · rw [if_pos h3, if_pos (show ((1 : Int32) ≤ v ∧ v ≤ 63) ∧ bits8 v < 4 ∧ ((1 : Int32) ≤ b ∧ b ≤ 20) from ⟨h1, h2, h3⟩)]; rfl
      · rw [if_neg h3, if_neg (show ¬ (((1 : Int32) ≤ v ∧ v ≤ 63) ∧ bits8 v < 4 ∧ ((1 : Int32) ≤ b ∧ b ≤ 20)) from fun h => h3 h.2.2)]; rfl
    · rw [if_pos ((lt4_iff _).mpr h2), if_neg (show ¬ (((1 : Int32) ≤ v ∧ v ≤ 63) ∧ bits8 v < 4 ∧ ((1 : Int32) ≤ b ∧ b ≤ 20)) from fun h => h2 h.2.1)]
  · rw [if_neg h1, if_neg (show ¬ (((1 : Int32) ≤ v ∧ v ≤ 63) ∧ bits8 v < 4 ∧ ((1 : Int32) ≤ b ∧ b ≤ 20)) from fun h => h1 h.1)]; rfl
theorem what_of {w : Int32} (h : (-1 : Int32) ≤ w ∧ w ≤ 5) : w = -1 ∨ ∃ k, k < 6 ∧ w = nI k := by
  by_cases h0 : (0 : Int32) ≤ w
  · obtain ⟨k, hk, e⟩ := of_rng (x := w) (n := 5) (by omega) h0 h.2
    exact Or.inr ⟨k, by omega, e⟩
  · refine Or.inl ?_
    have h1 := h.1
    rw [i_le] at h0 h1
    rw [i_eq]
    have e1 : (-1 : Int32).toInt = -1 := rfl
    have e0 : (0 : Int32).toInt = 0 := rfl
    omega
