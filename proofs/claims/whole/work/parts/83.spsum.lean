/-! specs: sums, numbers and letters of both -/
section CLOSE
variable {c w fu : Nat} {cs ws : Nat → Int32} {s : Int32}
theorem cl_stop (hw : w ≤ 180) (h : sTp ws w < 2 ∨ 6 < sTp ws w) : g_X12_closesSums_0 (fu + 1) s (nI c) (nI w) cs ws = some (nI c, nI w, cs) := by
  have h2 : ¬ sTp ws w = 2 := fun z => by rw [z] at h; exact absurd h (by decide)
  have h3 : ¬ sTp ws w = 3 := fun z => by rw [z] at h; exact absurd h (by decide)
  have e17 : g_X12_closesSums_17 (g_X12_closesSums_0 fu) s (nI c) (nI w) cs ws = some (nI c, nI w, cs) := by
    unfold g_X12_closesSums_17
    by_cases z : s = 0
    · rw [if_pos z]
    · rw [if_neg z, ms_top hw, Option.bind_some, if_neg h2, Option.bind_some, if_neg h3]
  simp only [g_X12_closesSums_0, ms_top hw, Option.bind_some, e17]
  by_cases z : sTp ws w < 4
  · rw [if_pos z]
  · rw [if_neg z]
    rcases h with h | h
    · exact absurd (show sTp ws w < 4 by rw [Int32.lt_iff_toInt_lt] at *; have e2 : (2 : Int32).toInt = 2 := rfl; have e4 : (4 : Int32).toInt = 4 := rfl; omega) z
    · rw [if_neg (show ¬ sTp ws w ≤ 6 by rw [Int32.lt_iff_toInt_lt] at h; rw [Int32.le_iff_toInt_le]; omega)]
theorem cl_stop0 (hw : w ≤ 180) (h : sTp ws w < 4 ∨ 6 < sTp ws w) : g_X12_closesSums_0 (fu + 1) 0 (nI c) (nI w) cs ws = some (nI c, nI w, cs) := by
  have e17 : g_X12_closesSums_17 (g_X12_closesSums_0 fu) 0 (nI c) (nI w) cs ws = some (nI c, nI w, cs) := by
    unfold g_X12_closesSums_17
    rw [if_pos rfl]
  simp only [g_X12_closesSums_0, ms_top hw, Option.bind_some, e17]
  by_cases z : sTp ws w < 4
  · rw [if_pos z]
  · rw [if_neg z]
    rcases h with h | h
    · exact absurd h z
    · rw [if_neg (show ¬ sTp ws w ≤ 6 by rw [Int32.lt_iff_toInt_lt] at h; rw [Int32.le_iff_toInt_le]; omega)]
theorem cl_pop {o : Nat} (hw : w < 180) (hc : c < 180) (ho : 2 ≤ o ∧ o ≤ 6) (hs : 4 ≤ o ∨ s = 1) (h : ws w = nI (1048576 * o + 0)) : g_X12_closesSums_0 (fu + 1) s (nI c) (nI (w + 1)) cs ws = g_X12_closesSums_0 fu s (nI (c + 1)) (nI w) (upd cs c (nI (1048576 * o + 0))) ws := by
  have ht := sTp_s (w := w) (ws := ws) (o := o) (v := 0) (by omega) (by omega) h
  have e37 : g_X12_closesSums_37 (g_X12_closesSums_0 fu) s (nI c) (nI (w + 1)) cs ws = g_X12_closesSums_0 fu s (nI (c + 1)) (nI w) (upd cs c (nI (1048576 * o + 0))) ws := by
    unfold g_X12_closesSums_37
    rw [ms_top (by omega), Option.bind_some, ht, show (0 : Int32) = nI 0 from rfl, ms_note hc, Option.bind_some, nI_m (by omega)]
    rfl
  have e17 : o < 4 → g_X12_closesSums_17 (g_X12_closesSums_0 fu) s (nI c) (nI (w + 1)) cs ws = g_X12_closesSums_0 fu s (nI (c + 1)) (nI w) (upd cs c (nI (1048576 * o + 0))) ws := by
    intro h4
    have s1 : s = 1 := by rcases hs with z | z; omega; exact z
    unfold g_X12_closesSums_17
    rw [ms_top (by omega), Option.bind_some, Option.bind_some, if_neg (by rw [s1]; decide), ht]
    by_cases z : o = 2
    · rw [if_pos (show nI o = 2 by rw [z]; rfl), e37]
    · rw [if_neg (show ¬ nI o = 2 from fun q => z ((nI_eq (b := 2) (by omega) (by omega)).mp q)), if_pos (show nI o = 3 by rw [show o = 3 by omega]; rfl), e37]
  simp only [g_X12_closesSums_0, ms_top (show w + 1 ≤ 180 by omega), Option.bind_some, ht]
  by_cases z : o < 4
  · rw [if_pos (show nI o < 4 from (nI_ltI (b := 4) (by omega) (by omega)).mpr z), e17 z]
  · rw [if_neg (show ¬ nI o < 4 from fun q => z ((nI_ltI (b := 4) (by omega) (by omega)).mp q)), if_pos (show nI o ≤ 6 from (nI_leI (b := 6) (by omega) (by omega)).mpr (by omega)), e37]
theorem hos_yes {k : Nat} (hw : w ≤ 180) : ∀ (fu v : Nat), v ≤ k → k < w → w < fu + v → ws k / 1048576 = 14 → g_X12_hasOpenSum_2 fu (nI v) (nI w) ws = some 1 := by
  intro fu
  induction fu with
  | zero => intro v h1 h2 h3; omega
  | succ fu ih =>
    intro v h1 h2 h3 h4
    simp only [g_X12_hasOpenSum_2]
    rw [ite_le (by omega) (by omega), if_neg (by omega), if_pos (vin_nI (by omega) (by omega)), nc v (by omega)]
    by_cases z : ws v / 1048576 = 14
    · rw [if_pos z]
    · rw [if_neg z, nI_p]
      exact ih (v + 1) (by rcases Nat.lt_or_ge v k with q | q; omega; exact absurd h4 (by rw [show k = v by omega]; exact z)) h2 (by omega) h4
theorem hos_no (hw : w ≤ 180) : ∀ (fu v : Nat), v ≤ w → w < fu + v → (∀ k, v ≤ k → k < w → ¬ ws k / 1048576 = 14) → g_X12_hasOpenSum_2 fu (nI v) (nI w) ws = some 0 := by
  intro fu
  induction fu with
  | zero => intro v h1 h2; omega
  | succ fu ih =>
    intro v h1 h3 h4
    simp only [g_X12_hasOpenSum_2]
    rw [ite_le (by omega) (by omega)]
    by_cases z : w ≤ v
    · rw [if_pos z]
    · rw [if_neg z, if_pos (vin_nI (by omega) (by omega)), nc v (by omega), if_neg (h4 v (Nat.le_refl _) (by omega)), nI_p]
      exact ih (v + 1) (by omega) (by omega) (fun k k1 k2 => h4 k (by omega) k2)
theorem hop_yes {k : Nat} (hw : w ≤ 180) : ∀ (fu v : Nat), v ≤ k → k < w → w < fu + v → ws k / 1048576 = 13 → g_X12_hasOpen_2 fu (nI v) (nI w) ws = some 1 := by
  intro fu
  induction fu with
  | zero => intro v h1 h2 h3; omega
  | succ fu ih =>
    intro v h1 h2 h3 h4
    simp only [g_X12_hasOpen_2]
    rw [ite_le (by omega) (by omega), if_neg (by omega), if_pos (vin_nI (by omega) (by omega)), nc v (by omega)]
    by_cases z : ws v / 1048576 = 13
    · rw [if_pos z]
    · rw [if_neg z, nI_p]
      exact ih (v + 1) (by rcases Nat.lt_or_ge v k with q | q; omega; exact absurd h4 (by rw [show k = v by omega]; exact z)) h2 (by omega) h4
theorem hop_no (hw : w ≤ 180) : ∀ (fu v : Nat), v ≤ w → w < fu + v → (∀ k, v ≤ k → k < w → ¬ ws k / 1048576 = 13) → g_X12_hasOpen_2 fu (nI v) (nI w) ws = some 0 := by
  intro fu
  induction fu with
  | zero => intro v h1 h2; omega
  | succ fu ih =>
    intro v h1 h3 h4
    simp only [g_X12_hasOpen_2]
    rw [ite_le (by omega) (by omega)]
    by_cases z : w ≤ v
    · rw [if_pos z]
    · rw [if_neg z, if_pos (vin_nI (by omega) (by omega)), nc v (by omega), if_neg (h4 v (Nat.le_refl _) (by omega)), nI_p]
      exact ih (v + 1) (by omega) (by omega) (fun k k1 k2 => h4 k (by omega) k2)
end CLOSE
section NUMB
variable {t : Nat → Int32} {N : Nat}
theorem m_digit (hN : N ≤ 120) {p : Nat} (hp : p ≤ 1000) : f_X12_isDigit t (nI p) (nI N) = some (if (48 : Int32) ≤ sgn t N p ∧ sgn t N p ≤ 57 then 1 else 0) := by
  unfold f_X12_isDigit g_X12_isDigit_0
  rw [m_sgn hN hp, Option.bind_some, Option.bind_some]
  by_cases h1 : sgn t N p < 48
  · rw [if_pos h1, if_neg (fun z => by have := z.1; rw [Int32.lt_iff_toInt_lt] at h1; rw [Int32.le_iff_toInt_le] at this; omega)]
  · rw [if_neg h1]
    by_cases h2 : 57 < sgn t N p
    · rw [if_pos h2, if_neg (fun z => by have := z.2; rw [Int32.lt_iff_toInt_lt] at h2; rw [Int32.le_iff_toInt_le] at this; omega)]
    · rw [if_neg h2, if_pos ⟨by rw [Int32.lt_iff_toInt_lt] at h1; rw [Int32.le_iff_toInt_le]; omega, by rw [Int32.lt_iff_toInt_lt] at h2; rw [Int32.le_iff_toInt_le]; omega⟩]
/-- a digit's worth -/
theorem dig_of {x : Int32} (h : (48 : Int32) ≤ x ∧ x ≤ 57) (v : Nat) (hv : v < 100000) : ∃ g, g ≤ 9 ∧ 10 * nI v + x - 48 = nI (10 * v + g) := by
  obtain ⟨k, k1, k2⟩ := of_rng (x := x) (n := 57) (by omega) (le_trans32 (by decide) h.1) h.2
  have k3 : 48 ≤ k := (nI_leI (a := 48) (by omega) (by omega)).mp (by rw [← k2]; exact h.1)
  refine ⟨k - 48, by omega, ?_⟩
  rw [k2, show (10 : Int32) = nI 10 from rfl, show (48 : Int32) = nI 48 from rfl, pk_mul, nI_add, pk_sub (by omega)]
  congr 1
  omega
theorem num_both (hN : N ≤ 120) {p c : Nat} {yc yw : Nat → Int32} (fx fl : Int32) : ∀ (k j fu fv v : Nat), j + k = 5 → 6 < fu + j → 6 < fv + j → v < 10 ^ j → p + j ≤ N →
    ((∃ u, g_X7_readNumber_4 fu (nI v) (nI j) yc yw (nI c) t (nI (p + j)) (nI N) fx = some u ∧ u.1 = 0 ∧ u.2.2.2.2.2 = ft 2 (p + 5) ∧ u.2.2.2.1 = nI c) ∧ (∃ w, g_X12_readsNumber_10 fv (nI p) t (nI (p + j)) (nI N) fl (nI v) = some w ∧ w.1 = 0 ∧ w.2.2.1 = ft 2 (p + 5))) ∨
    (∃ v' p', v' < 100000 ∧ p + j ≤ p' ∧ p' ≤ N ∧ ((48 : Int32) ≤ sgn t N (p + j) ∧ sgn t N (p + j) ≤ 57 → j < 5 → p + j < p') ∧ g_X7_readNumber_4 fu (nI v) (nI j) yc yw (nI c) t (nI (p + j)) (nI N) fx = (f_X6_add 0 (nI v') yc yw (nI c)).bind (fun u3 => some (1, u3.2.1, u3.2.2.1, u3.2.2.2, nI p', fx)) ∧ g_X12_readsNumber_10 fv (nI p) t (nI (p + j)) (nI N) fl (nI v) = some (1, nI p', fl, nI v')) := by
  intro k
  induction k with
  | zero =>
    intro j fu fv v hj h1 h2 hv hp
    obtain rfl : j = 5 := by omega
    obtain ⟨fu, rfl⟩ : ∃ q, fu = q + 1 := ⟨fu - 1, by omega⟩
    obtain ⟨fv, rfl⟩ : ∃ q, fv = q + 1 := ⟨fv - 1, by omega⟩
    have h5 : (5 : Int32) ≤ nI 5 := by decide
    have h10 : ¬ (1 : Int32) = 0 := by decide
    have hpj : p + 5 ≤ 1000 := by omega
    have he : nI (p + 5) = nI p + 5 := by rw [show (5 : Int32) = nI 5 from rfl, nI_add]
    by_cases hd : (48 : Int32) ≤ sgn t N (p + 5) ∧ sgn t N (p + 5) ≤ 57
    · left
      simp only [g_X7_readNumber_4, g_X12_readsNumber_10, if_pos h5, m_digit hN hpj, x_sgn hN hpj, Option.bind_some, w_in, if_pos hd, if_neg h10, if_pos he, g_X7_readNumber_55]
      exact ⟨⟨_, rfl, rfl, rfl, rfl⟩, ⟨_, rfl, rfl, rfl⟩⟩
    · right
      simp only [g_X7_readNumber_4, g_X12_readsNumber_10, if_pos h5, m_digit hN hpj, x_sgn hN hpj, Option.bind_some, w_in, if_neg hd, if_true, g_X7_readNumber_55]
      exact ⟨v, p + 5, by omega, by omega, hp, fun _ h => by omega, rfl, rfl⟩
  | succ k ih =>
    intro j fu fv v hj h1 h2 hv hp
    obtain ⟨fu, rfl⟩ : ∃ q, fu = q + 1 := ⟨fu - 1, by omega⟩
    obtain ⟨fv, rfl⟩ : ∃ q, fv = q + 1 := ⟨fv - 1, by omega⟩
    have hv5 : v < 10000 := Nat.lt_of_lt_of_le hv (Nat.pow_le_pow_right (n := 10) (by omega) (show j ≤ 4 by omega))
    have h5 : ¬ (5 : Int32) ≤ nI j := fun z => by have := (nI_leI (a := 5) (by omega) (by omega)).mp z; omega
    have h10 : ¬ (1 : Int32) = 0 := by decide
    have hpj : p + j ≤ 1000 := by omega
    by_cases hd : (48 : Int32) ≤ sgn t N (p + j) ∧ sgn t N (p + j) ≤ 57
    · have hlt : p + j < N := sgn_lt (fun z => by rw [z] at hd; exact absurd hd (by decide))
      have hsk : f_X9_skip (nI (p + j)) = some (nI (p + j + 1)) := by
        show some (nI (p + j) + 1) = _
        rw [nI_p]
      obtain ⟨g, g1, g2⟩ := dig_of hd v (by omega)
      have hne : ¬ nI (p + j) = nI p + 5 := fun z => by
        rw [show (5 : Int32) = nI 5 from rfl, nI_add] at z
        have := (nI_eq (by omega) (by omega)).mp z
        omega
      simp only [g_X7_readNumber_4, g_X12_readsNumber_10, if_neg h5, m_digit hN hpj, x_sgn hN hpj, m_sgn hN hpj, Option.bind_some, w_in, if_pos hd, if_neg h10, if_neg hne, hsk, g2, nI_p]
      have hv' : 10 * v + g < 10 ^ (j + 1) := by rw [Nat.pow_succ]; omega
      rcases ih (j + 1) fu fv (10 * v + g) (by omega) (by omega) (by omega) hv' (by omega) with z | ⟨v', p', z1, z2, z3, -, z4, z5⟩
      · exact Or.inl z
      · exact Or.inr ⟨v', p', z1, by omega, z3, fun _ _ => by omega, z4, z5⟩
    · right
      simp only [g_X7_readNumber_4, g_X12_readsNumber_10, if_neg h5, m_digit hN hpj, x_sgn hN hpj, Option.bind_some, w_in, if_neg hd, if_true, g_X7_readNumber_55]
      exact ⟨v, p + j, by omega, by omega, hp, fun h => absurd h hd, rfl, rfl⟩
/-- a letter's number -/
theorem let_both (x : Int32) : (f_X7_letterOf x = some (-1) ∧ f_X12_factOf x = some (-1)) ∨ ∃ v, v < 16 ∧ f_X7_letterOf x = some (nI v) ∧ f_X12_factOf x = some (nI v) := by
  unfold f_X7_letterOf g_X7_letterOf_0 f_X12_factOf g_X12_factOf_0
  rw [w_in, w_in, Option.bind_some, Option.bind_some]
  have e17 : ¬ ((97 : Int32) ≤ x ∧ x ≤ 102) → (if x < 97 then g_X12_factOf_17 x else (if 102 < x then g_X12_factOf_17 x else some (x - 97))) = g_X12_factOf_17 x := by
    intro h
    by_cases h1 : x < 97
    · rw [if_pos h1]
    · rw [if_neg h1, if_pos (Int32.lt_iff_toInt_lt.mpr (by
        by_cases z : (102 : Int32).toInt < x.toInt
        · exact z
        · exact absurd ⟨Int32.le_iff_toInt_le.mpr (by rw [Int32.lt_iff_toInt_lt] at h1; omega), Int32.le_iff_toInt_le.mpr (Int.not_lt.mp z)⟩ h))]
  by_cases h1 : (97 : Int32) ≤ x ∧ x ≤ 102
  · right
    obtain ⟨k, k1, rfl⟩ := of_rng (x := x) (n := 102) (by omega) (le_trans32 (by decide) h1.1) h1.2
    have k3 : 97 ≤ k := (nI_leI (a := 97) (by omega) (by omega)).mp h1.1
    rcases (show k = 97 ∨ k = 98 ∨ k = 99 ∨ k = 100 ∨ k = 101 ∨ k = 102 by omega) with rfl | rfl | rfl | rfl | rfl | rfl
    · exact ⟨0, by omega, by decide +kernel, by decide +kernel⟩
    · exact ⟨1, by omega, by decide +kernel, by decide +kernel⟩
    · exact ⟨2, by omega, by decide +kernel, by decide +kernel⟩
    · exact ⟨3, by omega, by decide +kernel, by decide +kernel⟩
    · exact ⟨4, by omega, by decide +kernel, by decide +kernel⟩
    · exact ⟨5, by omega, by decide +kernel, by decide +kernel⟩
  · rw [e17 h1, if_neg h1, if_pos rfl]
    unfold g_X12_factOf_17
    by_cases h2 : (65 : Int32) ≤ x ∧ x ≤ 70
    · right
      obtain ⟨k, k1, rfl⟩ := of_rng (x := x) (n := 70) (by omega) (le_trans32 (by decide) h2.1) h2.2
      have k3 : 65 ≤ k := (nI_leI (a := 65) (by omega) (by omega)).mp h2.1
      rcases (show k = 65 ∨ k = 66 ∨ k = 67 ∨ k = 68 ∨ k = 69 ∨ k = 70 by omega) with rfl | rfl | rfl | rfl | rfl | rfl
      · exact ⟨6, by omega, by decide +kernel, by decide +kernel⟩
      · exact ⟨7, by omega, by decide +kernel, by decide +kernel⟩
      · exact ⟨8, by omega, by decide +kernel, by decide +kernel⟩
      · exact ⟨9, by omega, by decide +kernel, by decide +kernel⟩
      · exact ⟨10, by omega, by decide +kernel, by decide +kernel⟩
      · exact ⟨11, by omega, by decide +kernel, by decide +kernel⟩
    · have e37 : (if x < 65 then g_X12_factOf_37 x else (if 70 < x then g_X12_factOf_37 x else some ((6 + x) - 65))) = g_X12_factOf_37 x := by
        by_cases h1 : x < 65
        · rw [if_pos h1]
        · rw [if_neg h1, if_pos (Int32.lt_iff_toInt_lt.mpr (by
            by_cases z : (70 : Int32).toInt < x.toInt
            · exact z
            · exact absurd ⟨Int32.le_iff_toInt_le.mpr (by rw [Int32.lt_iff_toInt_lt] at h1; omega), Int32.le_iff_toInt_le.mpr (Int.not_lt.mp z)⟩ h2))]
      rw [e37, if_neg h2, if_pos rfl]
      unfold g_X12_factOf_37
      by_cases a1 : x = 107
      · subst a1; exact Or.inr ⟨15, by omega, by decide +kernel, by decide +kernel⟩
      by_cases a2 : x = 108
      · subst a2; exact Or.inr ⟨13, by omega, by decide +kernel, by decide +kernel⟩
      by_cases a3 : x = 110
      · subst a3; exact Or.inr ⟨14, by omega, by decide +kernel, by decide +kernel⟩
      by_cases a4 : x = 115
      · subst a4; exact Or.inr ⟨12, by omega, by decide +kernel, by decide +kernel⟩
      rw [if_neg a1, if_neg a2, if_neg a3, if_neg a4, if_neg a4, if_neg a2, if_neg a3, if_neg a1]
      exact Or.inl ⟨rfl, rfl⟩
/-- the signs of sums and products -/
abbrev isS (x : Int32) : Prop := x = 43 ∨ x = 45
abbrev isP (x : Int32) : Prop := x = 42 ∨ x = 47 ∨ x = 37
theorem x_isS (x : Int32) : f_X7_isSum x = some (if isS x then 1 else 0) := by
  unfold f_X7_isSum g_X7_isSum_0
  by_cases h1 : x = 43
  · rw [if_pos h1, if_pos (Or.inl h1)]
  by_cases h2 : x = 45
  · rw [if_neg h1, if_pos h2, if_pos (Or.inr h2)]
  rw [if_neg h1, if_neg h2, if_neg (fun z => z.elim h1 h2)]
theorem x_isP (x : Int32) : f_X7_isProduct x = some (if isP x then 1 else 0) := by
  unfold f_X7_isProduct g_X7_isProduct_0
  by_cases h1 : x = 42
  · rw [if_pos h1, if_pos (Or.inl h1)]
  by_cases h2 : x = 47
  · rw [if_neg h1, if_pos h2, if_pos (Or.inr (Or.inl h2))]
  by_cases h3 : x = 37
  · rw [if_neg h1, if_neg h2, if_pos h3, if_pos (Or.inr (Or.inr h3))]
  rw [if_neg h1, if_neg h2, if_neg h3, if_neg (fun z => z.elim h1 (fun z => z.elim h2 h3))]
theorem m_sumS (x : Int32) : (isS x ∧ ∃ o, (o = 2 ∨ o = 3) ∧ x = nI (xsp o) ∧ f_X12_sumSign x = some (nI o)) ∨ (isP x ∧ ∃ o, 4 ≤ o ∧ o ≤ 6 ∧ x = nI (xsp o) ∧ f_X12_sumSign x = some (nI o)) ∨ (¬ isS x ∧ ¬ isP x ∧ f_X12_sumSign x = some (-1)) := by
  by_cases h1 : x = 43
  · subst h1; exact Or.inl ⟨Or.inl rfl, 2, Or.inl rfl, rfl, rfl⟩
  by_cases h2 : x = 45
  · subst h2; exact Or.inl ⟨Or.inr rfl, 3, Or.inr rfl, rfl, rfl⟩
  by_cases h3 : x = 42
  · subst h3; exact Or.inr (Or.inl ⟨Or.inl rfl, 4, by omega, by omega, rfl, rfl⟩)
  by_cases h4 : x = 47
  · subst h4; exact Or.inr (Or.inl ⟨Or.inr (Or.inl rfl), 5, by omega, by omega, rfl, rfl⟩)
  by_cases h5 : x = 37
  · subst h5; exact Or.inr (Or.inl ⟨Or.inr (Or.inr rfl), 6, by omega, by omega, rfl, rfl⟩)
  refine Or.inr (Or.inr ⟨fun z => z.elim h1 h2, fun z => z.elim h3 (fun z => z.elim h4 h5), ?_⟩)
  unfold f_X12_sumSign g_X12_sumSign_0
  rw [if_neg h1, if_neg h2, if_neg h3, if_neg h4, if_neg h5]
end NUMB
