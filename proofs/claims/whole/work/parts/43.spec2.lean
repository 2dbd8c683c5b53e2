theorem w_nI {j a b : Nat} (hj : j < 2 ^ 31) (ha : a < 2 ^ 31) (hb : b < 2 ^ 31) {aa bb : Int32} (ea : aa = nI a) (eb : bb = nI b) : f_X11_within (nI j) aa bb = some (if a ≤ j ∧ j ≤ b then 1 else 0) := by
  subst ea eb
  rw [w_in]
  by_cases h : a ≤ j ∧ j ≤ b
  · rw [if_pos h, if_pos ⟨(nI_leI ha hj).mpr h.1, (nI_leI hj hb).mpr h.2⟩]
  · rw [if_neg h, if_neg (fun q => h ⟨(nI_leI ha hj).mp q.1, (nI_leI hj hb).mp q.2⟩)]
theorem known_x {bg nw : Nat → Int32} (a3 a4 a6 a8 : Int32) {j : Nat} (hj : j < 16) : f_X0_known (nI j) bg nw a3 a4 a6 a8 = some (if j < 6 then bg j else if j < 12 then nw (j - 6) else if j = 12 then a3 else if j = 13 then a4 else if j = 14 then a6 else a8) := by
  unfold f_X0_known g_X0_known_0
  rw [w_nI (a := 0) (b := 5) (aa := 0) (bb := 5) (by omega) (by omega) (by omega) rfl rfl, Option.bind_some, w_nI (a := 6) (b := 11) (aa := 6) (bb := 11) (by omega) (by omega) (by omega) rfl rfl, Option.bind_some]
  by_cases h1 : j < 6
  · rw [if_pos (show 0 ≤ j ∧ j ≤ 5 by omega), if_neg (by decide), show nI j - 0 = nI j from pk_sub (b := 0) (Nat.zero_le _), if_pos (vin_nI h1 (by omega)), nc j (by omega), if_pos h1]
  · rw [if_neg (show ¬ (0 ≤ j ∧ j ≤ 5) by omega), if_pos rfl, if_neg h1]
    by_cases h2 : j < 12
    · rw [if_pos (show 6 ≤ j ∧ j ≤ 11 by omega), if_neg (by decide), show nI j - 6 = nI (j - 6) from pk_sub (b := 6) (by omega), if_pos (vin_nI (by omega) (by omega)), nc _ (by omega), if_pos h2]
    · rw [if_neg (show ¬ (6 ≤ j ∧ j ≤ 11) by omega), if_pos rfl, if_neg h2]
      rcases (show j = 12 ∨ j = 13 ∨ j = 14 ∨ j = 15 by omega) with rfl | rfl | rfl | rfl <;> rfl
/-- the reference's row at a place -/
theorem ms_row {o v : Nat} (ho : o ≤ 12) (hv : v < 1048576) {x : Int32} (e : x = nI (1048576 * o + v)) : x / 1048576 = nI o ∧ x - x / 1048576 * 1048576 = nI v := by
  subst e
  constructor
  · rw [div32 (d := 1048576) (by omega) (by omega) (by omega) 1048576 rfl]; congr 1; omega
  · rw [rem32 (d := 1048576) (by omega) (by omega) (by omega) 1048576 rfl]; congr 1; omega
section SPM
variable {fu i n dd o v : Nat} {co hm L : Nat → Int32}
theorem ms_num (hi : i < n) (hn : n ≤ 120) (hd : dd < 180) (e : co i = nI (1048576 * 0 + v)) (hv : v < 1048576) : g_X12_comesTo_16 (fu + 1) (nI n) (nI dd) 0 (nI i) co hm L = g_X12_comesTo_16 fu (nI n) (nI (dd + 1)) 0 (nI (i + 1)) co (upd hm dd (nI v)) L := by
  obtain ⟨e1, e2⟩ := ms_row (by omega) hv e
  simp only [g_X12_comesTo_16]
  rw [if_neg (by rw [nI_leI (by omega) (by omega)]; omega), if_pos (vin_nI (by omega) (by omega)), nc i (by omega), e2, e1, if_pos (show nI 0 = 0 from rfl)]
  unfold g_X12_comesTo_63 g_X12_comesTo_85
  rw [if_pos (show nI 0 = 0 from rfl), if_pos (vin_nI hd (by omega)), nc dd (by omega), nI_s, nI_s]
theorem ms_let (hi : i < n) (hn : n ≤ 120) (hd : dd < 180) (e : co i = nI (1048576 * 1 + v)) (hv : v < 16) : g_X12_comesTo_16 (fu + 1) (nI n) (nI dd) 0 (nI i) co hm L = g_X12_comesTo_16 fu (nI n) (nI (dd + 1)) 0 (nI (i + 1)) co (upd hm dd (L v)) L := by
  obtain ⟨e1, e2⟩ := ms_row (by omega) (by omega) e
  simp only [g_X12_comesTo_16]
  rw [if_neg (by rw [nI_leI (by omega) (by omega)]; omega), if_pos (vin_nI (by omega) (by omega)), nc i (by omega), e2, e1, if_neg (by decide), if_pos (by decide)]
  unfold g_X12_comesTo_63 g_X12_comesTo_85
  rw [if_neg (by decide), if_pos (vin_nI hv (by omega)), nc v (by omega), if_pos (vin_nI hd (by omega)), nc dd (by omega), nI_s, nI_s]
theorem ms_not (hi : i < n) (hn : n ≤ 120) (e : co i = nI (1048576 * 10 + v)) (hv : v < 1048576) : g_X12_comesTo_16 (fu + 1) (nI n) (nI 1) 0 (nI i) co hm L = g_X12_comesTo_16 fu (nI n) (nI 1) 0 (nI (i + 1)) co (upd hm 0 (1 - hm 0)) L := by
  obtain ⟨e1, e2⟩ := ms_row (by omega) hv e
  simp only [g_X12_comesTo_16]
  rw [if_neg (by rw [nI_leI (by omega) (by omega)]; omega), if_pos (vin_nI (by omega) (by omega)), nc i (by omega), e2, e1, if_neg (by decide), if_neg (by decide), if_pos (by decide), if_pos (by decide), nI_s]
  rfl
theorem ms_jump (hi : i < n) (hn : n ≤ 120) (ho : o = 11 ∨ o = 12) (e : co i = nI (1048576 * o + v)) (hv : v < 1048576) (hj : hm 0 = nI (o - 11)) : g_X12_comesTo_16 (fu + 1) (nI n) (nI 1) 0 (nI i) co hm L = g_X12_comesTo_16 fu (nI n) (nI 1) 0 (nI v) co hm L := by
  obtain ⟨e1, e2⟩ := ms_row (by omega) hv e
  simp only [g_X12_comesTo_16]
  rw [if_neg (by rw [nI_leI (by omega) (by omega)]; omega), if_pos (vin_nI (by omega) (by omega)), nc i (by omega), e2, e1]
  have e0 : (nI 1 - 1).toNatClampNeg = 0 := rfl
  rcases ho with rfl | rfl
  · rw [if_neg (by decide), if_neg (by decide), if_neg (by decide), if_pos (by decide)]
    unfold g_X12_comesTo_135 g_X12_comesTo_155
    rw [if_pos (by decide), if_neg (by decide), e0, if_pos (by rw [hj]; rfl), show (0 : Int32) + nI v = nI v from by rw [show (0 : Int32) = nI 0 from rfl, nI_add, Nat.zero_add]]
  · rw [if_neg (by decide), if_neg (by decide), if_neg (by decide), if_neg (by decide), if_pos (by decide)]
    unfold g_X12_comesTo_135 g_X12_comesTo_155
    rw [if_pos (by decide), if_pos (by decide), e0, if_pos (by rw [hj]; rfl), show (0 : Int32) + nI v = nI v from by rw [show (0 : Int32) = nI 0 from rfl, nI_add, Nat.zero_add]]
theorem ms_on (hi : i < n) (hn : n ≤ 120) (ho : o = 11 ∨ o = 12) (e : co i = nI (1048576 * o + v)) (hv : v < 1048576) (hj : ¬ hm 0 = nI (o - 11)) : g_X12_comesTo_16 (fu + 1) (nI n) (nI 1) 0 (nI i) co hm L = g_X12_comesTo_16 fu (nI n) (nI 0) 0 (nI (i + 1)) co hm L := by
  obtain ⟨e1, e2⟩ := ms_row (by omega) hv e
  simp only [g_X12_comesTo_16]
  rw [if_neg (by rw [nI_leI (by omega) (by omega)]; omega), if_pos (vin_nI (by omega) (by omega)), nc i (by omega), e2, e1]
  have e0 : (nI 1 - 1).toNatClampNeg = 0 := rfl
  rcases ho with rfl | rfl
  · rw [if_neg (by decide), if_neg (by decide), if_neg (by decide), if_pos (by decide)]
    unfold g_X12_comesTo_135 g_X12_comesTo_155
    rw [if_pos (by decide), if_neg (by decide), e0, if_neg (fun q => hj (by rw [q]; rfl)), nI_s]
    rfl
  · rw [if_neg (by decide), if_neg (by decide), if_neg (by decide), if_neg (by decide), if_pos (by decide)]
    unfold g_X12_comesTo_135 g_X12_comesTo_155
    rw [if_pos (by decide), if_pos (by decide), e0, if_neg (fun q => hj (by rw [q]; rfl)), nI_s]
    rfl
/-- a row that reckons two numbers -/
theorem ms_two (hi : i < n) (hn : n ≤ 120) (ho : 2 ≤ o ∧ o ≤ 9) (hd : dd < 170) (e : co i = nI (1048576 * o + 0)) : g_X12_comesTo_16 (fu + 1) (nI n) (nI (dd + 2)) 0 (nI i) co hm L = if (o = 5 ∨ o = 6) ∧ hm (dd + 1) = 0 then some (0, hm) else (f_X12_reckon (nI o) (hm dd) (hm (dd + 1))).bind (fun u => g_X12_comesTo_16 fu (nI n) (nI (dd + 1)) 0 (nI (i + 1)) co (upd hm dd u) L) := by
  obtain ⟨e1, e2⟩ := ms_row (by omega) (by omega) e
  have k1 : nI (dd + 2) - 1 = nI (dd + 1) := nI_m (by omega)
  have k2 : nI (dd + 1) - 1 = nI dd := nI_m (by omega)
  have key : g_X12_comesTo_203 (g_X12_comesTo_16 fu) (nI n) (nI (dd + 1)) 0 (nI (i + 1)) (nI o) co hm L = (f_X12_reckon (nI o) (hm dd) (hm (dd + 1))).bind (fun u => g_X12_comesTo_16 fu (nI n) (nI (dd + 1)) 0 (nI (i + 1)) co (upd hm dd u) L) := by
    unfold g_X12_comesTo_203
    rw [k2, if_pos (vin_nI (by omega) (by omega)), if_pos (vin_nI (by omega) (by omega)), nc _ (by omega), nc _ (by omega)]
  have ne : ∀ {q : Nat}, q < 20 → o ≠ q → ¬ nI o = nI q := fun hq h x => h ((nI_eq (by omega) (by omega)).mp x)
  simp only [g_X12_comesTo_16]
  rw [if_neg (by rw [nI_leI (by omega) (by omega)]; omega), if_pos (vin_nI (by omega) (by omega)), nc i (by omega), e1, if_neg (show ¬ nI o = 0 from ne (q := 0) (by omega) (by omega)), if_neg (show ¬ nI o = 1 from ne (q := 1) (by omega) (by omega)), if_neg (show ¬ nI o = 10 from ne (q := 10) (by omega) (by omega)), if_neg (show ¬ nI o = 11 from ne (q := 11) (by omega) (by omega)), if_neg (show ¬ nI o = 12 from ne (q := 12) (by omega) (by omega)), k1, nI_s, key]
  have k192 : g_X12_comesTo_192 (g_X12_comesTo_16 fu) (nI n) (nI (dd + 1)) 0 (nI (i + 1)) (nI o) co hm L = if hm (dd + 1) = 0 then some (0, hm) else (f_X12_reckon (nI o) (hm dd) (hm (dd + 1))).bind (fun u => g_X12_comesTo_16 fu (nI n) (nI (dd + 1)) 0 (nI (i + 1)) co (upd hm dd u) L) := by
    unfold g_X12_comesTo_192
    rw [if_pos (vin_nI (by omega) (by omega)), nc _ (by omega), key]
  rw [k192]
  by_cases q : hm (dd + 1) = 0
  · rw [if_pos q]
    by_cases q5 : o = 5
    · rw [if_pos (show nI o = 5 by rw [q5]; rfl), if_pos (show (o = 5 ∨ o = 6) ∧ hm (dd + 1) = 0 from ⟨Or.inl q5, q⟩)]
    · rw [if_neg (show ¬ nI o = 5 from ne (q := 5) (by omega) q5)]
      by_cases q6 : o = 6
      · rw [if_pos (show nI o = 6 by rw [q6]; rfl), if_pos (show (o = 5 ∨ o = 6) ∧ hm (dd + 1) = 0 from ⟨Or.inr q6, q⟩)]
      · rw [if_neg (show ¬ nI o = 6 from ne (q := 6) (by omega) q6), if_neg (by omega)]
  · rw [if_neg q, if_neg (show ¬ ((o = 5 ∨ o = 6) ∧ hm (dd + 1) = 0) from fun x => q x.2)]
    by_cases q5 : o = 5
    · rw [if_pos (show nI o = 5 by rw [q5]; rfl)]
    · rw [if_neg (show ¬ nI o = 5 from ne (q := 5) (by omega) q5)]
      by_cases q6 : o = 6
      · rw [if_pos (show nI o = 6 by rw [q6]; rfl)]
      · rw [if_neg (show ¬ nI o = 6 from ne (q := 6) (by omega) q6)]
theorem ms_end (hn : n ≤ 120) : g_X12_comesTo_16 (fu + 1) (nI n) (nI dd) 0 (nI n) co hm L = some (hm 0, hm) := by
  simp only [g_X12_comesTo_16]
  rw [if_pos (by rw [nI_leI (by omega) (by omega)]; omega)]
  rfl
end SPM
