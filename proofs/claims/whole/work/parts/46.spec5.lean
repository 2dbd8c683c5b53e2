def lets (bg nw : Nat → Int32) (a3 a4 a6 a8 : Int32) (j : Nat) : Int32 := if j < 6 then bg j else if j < 12 then nw (j - 6) else if j = 12 then a3 else if j = 13 then a4 else if j = 14 then a6 else a8
theorem m_lets {sm : Int32} {co y20 bm nm : Nat → Int32} {st sp cl en : Int32} : ∀ (fu i : Nat) (y21 : Nat → Int32), i ≤ 6 → 7 ≤ fu + i → (∀ j, j < i → y21 j = bm j ∧ y21 (6 + j) = nm j) → ∃ L : Nat → Int32, g_X12_specHolds_11 fu (nI i) sm co y20 y21 bm nm st sp cl en = (f_X12_comesTo 0 sm co y20 L).bind (fun u1 => if u1.1 = 1 then some (1, u1.2, L) else some (0, u1.2, L)) ∧ ∀ j, j < 16 → L j = lets bm nm sp cl st en j := by
  intro fu
  induction fu with
  | zero => intro i y21 h1 h2; omega
  | succ fu ih =>
    intro i y21 h1 h2 hj
    simp only [g_X12_specHolds_11]
    rcases Nat.lt_or_ge i 6 with hi | hi
    · have e6 : (6 : Int32) + nI i = nI (6 + i) := nI_add 6 i
      rw [if_neg (c6_le hi), if_pos (vin_nI hi (by omega)), if_pos (vin_nI (by omega) (by omega)), e6, if_pos (vin_nI (by omega) (by omega)), nc i (by omega), nc (6 + i) (by omega), nI_s]
      refine ih (i + 1) _ (by omega) (by omega) (fun j hj2 => ?_)
      by_cases hji : j = i
      · subst hji
        rw [upd_same, upd_ne (by omega), upd_same]
        exact ⟨rfl, rfl⟩
      · rw [upd_ne (by omega), upd_ne (by omega), upd_ne (by omega), upd_ne (by omega)]
        exact hj j (by omega)
    · have hi6 : i = 6 := by omega
      subst hi6
      rw [if_pos c6_ge]
      refine ⟨_, rfl, fun j hj2 => ?_⟩
      show upd (upd (upd (upd y21 12 sp) 13 cl) 14 st) 15 en j = _
      unfold lets
      rcases Nat.lt_or_ge j 12 with h12 | h12
      · rw [upd_ne (by omega), upd_ne (by omega), upd_ne (by omega), upd_ne (by omega)]
        by_cases h6 : j < 6
        · rw [if_pos h6]; exact (hj j h6).1
        · rw [if_neg h6, if_pos h12]
          have := (hj (j - 6) (by omega)).2
          rw [show 6 + (j - 6) = j by omega] at this
          exact this
      · rcases (show j = 12 ∨ j = 13 ∨ j = 14 ∨ j = 15 by omega) with rfl | rfl | rfl | rfl <;> rfl
theorem spec_pair {c wi co : Nat → Int32} {sz sm : Int32} (hS : RS c wi sz co sm) {bx nx bm nm : Nat → Int32} (h1 : ∀ j, j < 6 → bx j = bm j) (h2 : ∀ j, j < 6 → nx j = nm j) (hh : Nat → Int32) (x4 x5 x6 : Int32) (y20 y21 : Nat → Int32) (st sp cl en : Int32) :
    ∃ (r : Bool), (∃ (hx' : Nat → Int32) (y4 y5 y6 : Int32), f_X6_holds c wi sz hh x4 x5 x6 bx nx sp cl st en = some ((if r = true then 1 else 0), hx', y4, y5, y6)) ∧ (∃ (y20' y21' : Nat → Int32), f_X12_specHolds sm co y20 y21 bm nm st sp cl en = some ((if r = true then 1 else 0), y20', y21')) := by
  obtain ⟨n, P, d, bo, hn, e1, e2, hw, hc, hco⟩ := hS
  subst e1 e2
  unfold f_X6_holds g_X6_holds_0 f_X12_specHolds g_X12_specHolds_0
  rcases Nat.eq_zero_or_pos n with hz | hz
  · subst hz
    refine ⟨true, ⟨hh, 0, 0, 1, ?_⟩, y20, y21, ?_⟩
    · exact xs_end (n := 0) (fu := 999999) (st := 0) (by omega) 0
    · rw [if_pos (show nI 0 = 0 from rfl)]; rfl
  · rw [if_neg (show ¬ nI n = 0 from fun x => absurd ((nI_eq (b := 0) (by omega) (by omega)).mp x) (by omega))]
    obtain ⟨L, eL, hL⟩ := m_lets (sm := nI n) (co := co) (y20 := y20) (bm := bm) (nm := nm) (st := st) (sp := sp) (cl := cl) (en := en) FU 0 y21 (by omega) (by unfold FU; omega) (fun j hj => absurd hj (by omega))
    have hK : ∀ j, j < 16 → f_X0_known (nI j) bx nx sp cl st en = some (L j) := by
      intro j hj
      rw [known_x _ _ _ _ hj, hL j hj]
      unfold lets
      by_cases h6 : j < 6
      · rw [if_pos h6, if_pos h6, h1 j h6]
      · rw [if_neg h6, if_neg h6]
        by_cases h12 : j < 12
        · rw [if_pos h12, if_pos h12, h2 _ (by omega)]
        · rw [if_neg h12, if_neg h12]
    obtain ⟨d0, b0, -, -⟩ := hw.1 hz
    obtain ⟨r, hx', y4, y5, y6, r', hm', q1, q2, q3⟩ := spec_loop hw hn hz hc hco hK FU 0 0 hh y20 (nI 0) 1 (by unfold FU; omega) (by omega) (by omega) ⟨by omega, fun _ => ⟨by rw [d0], fun j hj => absurd hj (by omega)⟩, fun x => absurd (b0.symm.trans x) (by decide)⟩
    refine ⟨r, ⟨hx', y4, y5, y6, q1⟩, hm', L, ?_⟩
    rw [d0] at q2
    have q2' : f_X12_comesTo 0 (nI n) co y20 L = some (r', hm') := q2
    have eL' : g_X12_specHolds_11 FU 0 (nI n) co y20 y21 bm nm st sp cl en = _ := eL
    rw [eL', q2', Option.bind_some]
    by_cases hr : r' = 1
    · rw [if_pos hr, if_pos (q3.mp hr)]
    · rw [if_neg hr, if_neg (fun x => hr (q3.mpr x))]
