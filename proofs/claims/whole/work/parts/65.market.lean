/-! the market -/
def aM (y : Nat → Int32) (k : Nat) : Nat := (y k).toNatClampNeg
def mmN (i : Nat) (y b : Nat → Int32) (j : Nat) : Nat := if j < 6 then min (aM y (6 * i + j)) (absN b j) else 0
theorem aM_eq {y : Nat → Int32} (h : ∀ j, inR 0 99 (y j)) (k : Nat) : y k = nI (aM y k) ∧ aM y k ≤ 99 := by
  obtain ⟨q, hq, e⟩ := of_rng (x := y k) (n := 99) (by omega) (h k).1 (h k).2
  have : aM y k = q := by unfold aM; rw [e, nc q (by omega)]
  rw [this]
  exact ⟨e, hq⟩
section STEPSOF
variable {w n i : Nat} {P : PG} {kf b ms y6 c fi se nx ot : Nat → Int32} {rs : Int32}
theorem mmN_MB (hV : RV kf b ms rs) : MB (absN b) (mmN i y6 b) := by
  obtain ⟨q1, q2, q3, q4, q5, q6⟩ := RV_abs hV
  intro j hj
  unfold mmN
  rw [if_pos hj]
  exact ⟨Nat.min_le_right _ _, (q5 j hj).2⟩
theorem mmN_Z6 : Z6 (mmN i y6 b) := fun j hj => if_neg (by omega)
theorem x_stepsOf (hn : n ≤ 120) (hw : PWf n P) (hp0 : stp0 n P) (hX : RX n P c fi se nx ot) (hV : RV kf b ms rs) (hi : i < 8) (h6 : ∀ j, inR 0 99 (y6 j)) (y8 : Nat → Int32) (d1 d2 : Nat → Int32) (e3 e4 e5 e6 e7 e8 : Int32) (mk : Nat → Int32) (x10 x11 x12 x13 x14 : Int32) : ∀ (fu v : Nat) (y7 : Nat → Int32), v ≤ 6 → 7 ≤ fu + v → (∀ j, j < v → y7 j = nI (mmN i y6 b j)) → ∃ u, g_X2_stepsOf_2 fu (nI i) (nI v) y6 y7 y8 c fi se nx ot (nI n) d1 d2 e3 e4 e5 e6 e7 e8 mk x10 x11 x12 x13 x14 kf b rs = some u ∧ u.1 = nI (RUN n P kf b 1000 (mmN i y6 b) 0).2.1 ∧ u.2.2.1 = upd y8 i (nI (RUN n P kf b 1000 (mmN i y6 b) 0).2.1) := by
  obtain ⟨q1, q2, q3, q4, q5, q6⟩ := RV_abs hV
  intro fu
  induction fu with
  | zero => intro v y7 h1 h2; omega
  | succ fu ih =>
    intro v y7 h1 h2 hy
    simp only [g_X2_stepsOf_2]
    rcases Nat.lt_or_ge v 6 with hv | hv
    · obtain ⟨a1, a2⟩ := aM_eq h6 (6 * i + v)
      have b1 := (q5 v hv).2
      have e : nI i * 6 + nI v = nI (6 * i + v) := by rw [show (6 : Int32) = nI 6 from rfl, pk_mul, nI_add, Nat.mul_comm i 6]
      rw [if_neg (c6_le hv), e, if_pos (vin_nI (by omega) (by omega)), if_pos (vin_nI hv (by omega)), nc (6 * i + v) (by omega), nc v (by omega), a1, q3 v hv, x_min _ _ (by omega) (by omega), Option.bind_some, nI_s]
      refine ih (v + 1) _ (by omega) (by omega) (fun j hj => ?_)
      by_cases hjv : j = v
      · subst hjv
        rw [upd_same]
        unfold mmN
        rw [if_pos hv]
      · rw [upd_ne hjv]; exact hy j (by omega)
    · have hv6 : v = 6 := by omega
      subst hv6
      rw [if_pos c6_ge, x_start, Option.bind_some]
      dsimp only
      obtain ⟨f', mk', p', a1, a2, a3, a4, a5, t1, t2⟩ := x_goR hn hw hp0 hX hV (lim := 1000) (co := 0) (by omega) (by omega) (mmN_MB hV) mmN_Z6 (R6_cpI (g := d2) (y := y7) (m := mmN i y6 b) hy) mk x10 x11 x12 x13 x14
      have t1' : f_X0_go 1000 (cpI 0 y7 d2) 0 0 0 0 0 0 mk x10 x11 x12 x13 x14 c fi se nx ot (nI n) kf b rs = _ := t1
      rw [t1', Option.bind_some, if_pos (vin_nI hi (by omega)), nc i (by omega), upd_same]
      exact ⟨_, rfl, rfl, rfl⟩
theorem m_takesNow {op a bb lo y56 : Nat → Int32} (hw3 : w < 3) (hn : n ≤ 120) (hlo : lo w = nI n) (hw : PWf n P) (hp0 : stp0 n P) (hM : RMo w n P op a bb) (hV : RV kf b ms rs) (hi : i < 8) (h6 : ∀ j, inR 0 99 (y6 j)) (h56 : y56 i = nI w) (d1 d2 : Nat → Int32) (e3 e4 e5 e6 e7 e8 : Int32) : ∀ (fu v : Nat) (y7 : Nat → Int32), v ≤ 6 → 7 ≤ fu + v → (∀ j, j < v → y7 j = nI (mmN i y6 b j)) → ∃ u, g_X12_takesNow_2 fu (nI i) (nI v) kf b op a bb lo d1 d2 e3 e4 e5 e6 e7 e8 y7 y56 y6 = some u ∧ u.1 = nI (RUN n P kf b 1000 (mmN i y6 b) 0).2.1 := by
  obtain ⟨q1, q2, q3, q4, q5, q6⟩ := RV_abs hV
  intro fu
  induction fu with
  | zero => intro v y7 h1 h2; omega
  | succ fu ih =>
    intro v y7 h1 h2 hy
    simp only [g_X12_takesNow_2]
    rcases Nat.lt_or_ge v 6 with hv | hv
    · obtain ⟨a1, a2⟩ := aM_eq h6 (6 * i + v)
      have b1 := (q5 v hv).2
      have e : 6 * nI i + nI v = nI (6 * i + v) := by rw [show (6 : Int32) = nI 6 from rfl, pk_mul, nI_add]
      rw [if_neg (c6_le hv), e, if_pos (vin_nI (by omega) (by omega)), if_pos (vin_nI hv (by omega)), nc (6 * i + v) (by omega), nc v (by omega), a1, q3 v hv, m_min _ _ (by omega) (by omega), Option.bind_some, nI_s]
      refine ih (v + 1) _ (by omega) (by omega) (fun j hj => ?_)
      by_cases hjv : j = v
      · subst hjv
        rw [upd_same]
        unfold mmN
        rw [if_pos hv]
      · rw [upd_ne hjv]; exact hy j (by omega)
    · have hv6 : v = 6 := by omega
      subst hv6
      rw [if_pos c6_ge, m_starttF, Option.bind_some, if_pos (vin_nI hi (by omega)), nc i (by omega), h56]
      dsimp only
      obtain ⟨g', p', t1, t2⟩ := m_runR hw3 hn hlo hw hp0 hM hV (lim := 1000) (co := 0) (by omega) (by omega) (mmN_MB hV) (R6_cpI (g := d2) (y := y7) (m := mmN i y6 b) hy)
      have t1' : f_X12_runsOn (nI w) 1000 kf b op a bb lo (cpI 0 y7 d2) 0 0 0 0 0 0 = _ := t1
      rw [t1', Option.bind_some]
      exact ⟨_, rfl, rfl⟩
theorem RUN_st (hw : PWf n P) (hp0 : stp0 n P) (hV : RV kf b ms rs) : (RUN n P kf b 1000 (mmN i y6 b) 0).2.1 ≤ 1000 := by
  obtain ⟨A, a1, -, -, a4⟩ := run_len0 (K := absN kf) (B := absN b) (lim := 1000) (m := mmN i y6 b) (co := 0) hw hp0 (by omega) (mmN_MB hV) mmN_Z6
  show (aRun n P (absN kf) (absN b) 1000 (st0 (mmN i y6 b) 0)).2.1 ≤ 1000
  omega
end STEPSOF
/-! bytes of a tape as measures -/
theorem byt_pos : ∀ k, k < 128 → nI k &&& 255 = nI k := by decide +kernel
theorem byt_neg : ∀ k, k < 129 → 0 < k → 99 < (-(nI k)) &&& 255 := by decide +kernel
theorem byt_cases {x : Int32} (h : inR (-128) 127 x) : (0 ≤ x ∧ x &&& 255 = x) ∨ (¬ 0 ≤ x ∧ 99 < x &&& 255) := by
  obtain ⟨h1, h2⟩ := h
  by_cases h0 : (0 : Int32) ≤ x
  · obtain ⟨k, hk, rfl⟩ := of_rng (x := x) (n := 127) (by omega) h0 h2
    exact Or.inl ⟨h0, byt_pos k (by omega)⟩
  · refine Or.inr ⟨h0, ?_⟩
    rw [i_le] at h0 h1
    have e0 : (0 : Int32).toInt = 0 := rfl
    have e1 : (-128 : Int32).toInt = -128 := rfl
    have ex : x = -(nI (-x.toInt).toNat) := by
      rw [i_eq, Int32.toInt_neg, nI_toInt (by omega)]
      have : (-((-x.toInt).toNat : Int)) = x.toInt := by omega
      rw [this]
      rw [Int.bmod_eq_of_le (by omega) (by omega)]
    rw [ex]
    exact byt_neg _ (by omega) (by omega)
theorem x_takeM (t : Nat → Int32) : ∀ (fu i : Nat) (y : Nat → Int32), i ≤ 6 → 7 ≤ fu + i → g_X9_takeMeasures_2 fu (nI i) t y = some (cpI i (fun j => t j &&& 255) y) := by
  intro fu
  induction fu with
  | zero => intro i y h1 h2; omega
  | succ fu ih =>
    intro i y h1 h2
    simp only [g_X9_takeMeasures_2]
    rcases Nat.lt_or_ge i 6 with hi | hi
    · rw [if_neg (c6_le hi), if_neg (c6_le hi), x_at t (by omega), Option.bind_some, if_pos (vin_nI hi (by omega)), nc i (by omega), nI_s, ih (i + 1) _ (by omega) (by omega), cpI_step hi (fun j => t j &&& 255)]
    · have hi6 : i = 6 := by omega
      subst hi6
      rw [if_pos c6_ge, cpI_6]
theorem x_takeMF (t y : Nat → Int32) : f_X9_takeMeasures t y = some (cpI 0 (fun j => t j &&& 255) y) := x_takeM t FU 0 y (by omega) (by unfold FU; omega)
/-- whether the six bytes are measures up to 99 -/
def goodT (t : Nat → Int32) : Prop := ∀ j, j < 6 → inR 0 99 (t j)
theorem x_offer (y : Nat → Int32) : ∀ (fu i : Nat), i ≤ 6 → 7 ≤ fu + i → ((∀ j, i ≤ j → j < 6 → y j ≤ 99) → g_X2_isOfferGood_2 fu (nI i) y = some 1) ∧ ((¬ ∀ j, i ≤ j → j < 6 → y j ≤ 99) → g_X2_isOfferGood_2 fu (nI i) y = some 0) := by
  intro fu
  induction fu with
  | zero => intro i h1 h2; omega
  | succ fu ih =>
    intro i h1 h2
    rcases Nat.lt_or_ge i 6 with hi | hi
    · have e : g_X2_isOfferGood_2 (fu + 1) (nI i) y = (if y i ≤ 99 then g_X2_isOfferGood_2 fu (nI (i + 1)) y else some 0) := by
        simp only [g_X2_isOfferGood_2]
        rw [if_neg (c6_le hi), if_pos (vin_nI hi (by omega)), nc i (by omega), nI_s]
      rw [e]
      obtain ⟨q1, q2⟩ := ih (i + 1) (by omega) (by omega)
      by_cases h : y i ≤ 99
      · rw [if_pos h]
        refine ⟨fun hh => q1 (fun j hj hj6 => hh j (by omega) hj6), fun hh => q2 (fun hj => hh (fun j hj1 hj6 => ?_))⟩
        rcases Nat.lt_or_ge i j with q | q
        · exact hj j q hj6
        · rw [show j = i by omega]; exact h
      · rw [if_neg h]
        exact ⟨fun hh => absurd (hh i (Nat.le_refl i) hi) h, fun _ => rfl⟩
    · have hi6 : i = 6 := by omega
      subst hi6
      have e : g_X2_isOfferGood_2 (fu + 1) (nI 6) y = some 1 := by
        simp only [g_X2_isOfferGood_2]
        rw [if_pos c6_ge]
      exact ⟨fun _ => e, fun hh => absurd (fun j h3 h4 => absurd h4 (by omega)) hh⟩
theorem x_offerF (t y : Nat → Int32) (ht : ∀ j, inR (-128) 127 (t j)) : (goodT t → f_X2_isOfferGood (cpI 0 (fun j => t j &&& 255) y) = some 1) ∧ (¬ goodT t → f_X2_isOfferGood (cpI 0 (fun j => t j &&& 255) y) = some 0) := by
  obtain ⟨h1, h2⟩ := x_offer (cpI 0 (fun j => t j &&& 255) y) FU 0 (by omega) (by unfold FU; omega)
  refine ⟨fun h => h1 (fun j _ hj => ?_), fun h => h2 (fun hh => h (fun j hj => ?_))⟩
  · rw [cpI_lt hj]
    show t j &&& 255 ≤ 99
    rcases byt_cases (ht j) with q | q
    · rw [q.2]; exact (h j hj).2
    · exact absurd (h j hj).1 q.1
  · have := hh j (Nat.zero_le _) hj
    rw [cpI_lt hj] at this
    have this : t j &&& 255 ≤ 99 := this
    rcases byt_cases (ht j) with q | q
    · rw [q.2] at this; exact ⟨q.1, this⟩
    · have q2 := q.2
      rw [i_lt] at q2
      rw [i_le] at this
      omega
