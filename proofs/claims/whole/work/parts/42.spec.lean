/-! the spec: the class's holds against the reference's comesTo -/
theorem x_push {h : Nat → Int32} {k : Nat} (hk : k < 120) (v : Int32) : f_X6_push v h (nI k) = some (upd h k v, nI (k + 1)) := by
  unfold f_X6_push g_X6_push_0
  rw [if_neg (by rw [show (120 : Int32) = nI 120 from rfl, nI_leI (by omega) (by omega)]; omega), if_pos (vin_nI hk (by omega)), nc k (by omega), nI_s]
theorem x_pop {h : Nat → Int32} {k : Nat} (hk : k < 120) : f_X6_pop h (nI (k + 1)) = some (h k, nI k) := by
  unfold f_X6_pop g_X6_pop_0
  rw [if_pos (by rw [show (0 : Int32) = nI 0 from rfl, nI_ltI (by omega) (by omega)]; omega), nI_m (by omega), show k + 1 - 1 = k by omega, if_pos (vin_nI hk (by omega)), nc k (by omega)]
section SPX
variable {fu i st n : Nat} {c wi h bg nw : Nat → Int32} {x4 x6 a3 a4 a6 a8 : Int32}
theorem xs_plain (hst : st ≤ i) (hi : i < n) (hn : n ≤ 120) {h' : Nat → Int32} {x4' x5' x6' : Int32} (h3 : ¬ c i = 3) (h4 : ¬ c i = 4) (e : f_X6_obey (c i) (wi i) h x4 0 x6 bg nw a3 a4 a6 a8 = some (h', x4', x5', x6')) : g_X6_holds_19 (fu + 1) (nI i) (nI st) c wi (nI n) h x4 0 x6 bg nw a3 a4 a6 a8 = g_X6_holds_19 fu (nI (i + 1)) (nI (st + 1)) c wi (nI n) h' x4' x5' x6' bg nw a3 a4 a6 a8 := by
  simp only [g_X6_holds_19]
  rw [if_neg (by rw [nI_leI (by omega) (by omega)]; omega), if_neg (by rw [nI_leI (by omega) (by omega)]; omega), if_pos trivial, if_pos (vin_nI (by omega) (by omega)), nc i (by omega), if_neg h3]
  unfold g_X6_holds_63 g_X6_holds_80 g_X6_holds_81
  rw [if_neg h4, if_pos rfl, if_pos (vin_nI (by omega) (by omega)), nc i (by omega), e, Option.bind_some]
  unfold g_X6_holds_101
  rw [if_pos rfl, nI_s, nI_s]
theorem xs_jump (hst : st ≤ i) (hi : i < n) (hn : n ≤ 120) {t : Nat} (ht : i < t) (ht2 : t ≤ 120) (hw : wi i = nI t) (hc : (c i = 3 ∧ x6 = 0) ∨ (c i = 4 ∧ ¬ x6 = 0)) : g_X6_holds_19 (fu + 1) (nI i) (nI st) c wi (nI n) h x4 0 x6 bg nw a3 a4 a6 a8 = g_X6_holds_19 fu (nI t) (nI (st + 1)) c wi (nI n) h x4 0 x6 bg nw a3 a4 a6 a8 := by
  have key : g_X6_holds_76 (g_X6_holds_19 fu) (nI i) (nI st) (c i) c wi (nI n) h x4 0 x6 bg nw a3 a4 a6 a8 = g_X6_holds_19 fu (nI t) (nI (st + 1)) c wi (nI n) h x4 0 x6 bg nw a3 a4 a6 a8 := by
    unfold g_X6_holds_76 g_X6_holds_81 g_X6_holds_101
    rw [if_neg (by decide), if_neg (by decide), if_pos (vin_nI (by omega) (by omega)), nc i (by omega), hw, nI_s]
    unfold f_J9_max_7cf53 g_J9_max_7cf53_0
    rw [ite_lt (by omega) (by omega), if_neg (by omega), Option.bind_some, nI_s]
  simp only [g_X6_holds_19]
  rw [if_neg (by rw [nI_leI (by omega) (by omega)]; omega), if_neg (by rw [nI_leI (by omega) (by omega)]; omega), if_pos trivial, if_pos (vin_nI (by omega) (by omega)), nc i (by omega)]
  rcases hc with ⟨q1, q2⟩ | ⟨q1, q2⟩
  · rw [if_pos q1, if_pos q2, key]
  · rw [if_neg (by rw [q1]; decide)]
    unfold g_X6_holds_63
    rw [if_pos q1, if_neg q2, key]
theorem xs_on (hst : st ≤ i) (hi : i < n) (hn : n ≤ 120) (hc : (c i = 3 ∧ ¬ x6 = 0) ∨ (c i = 4 ∧ x6 = 0)) : g_X6_holds_19 (fu + 1) (nI i) (nI st) c wi (nI n) h x4 0 x6 bg nw a3 a4 a6 a8 = g_X6_holds_19 fu (nI (i + 1)) (nI (st + 1)) c wi (nI n) h x4 0 x6 bg nw a3 a4 a6 a8 := by
  have key : g_X6_holds_80 (g_X6_holds_19 fu) (nI i) (nI st) (c i) c wi (nI n) h x4 0 x6 bg nw a3 a4 a6 a8 = g_X6_holds_19 fu (nI (i + 1)) (nI (st + 1)) c wi (nI n) h x4 0 x6 bg nw a3 a4 a6 a8 := by
    have e : f_X6_obey (c i) (wi i) h x4 0 x6 bg nw a3 a4 a6 a8 = some (h, x4, 0, x6) := by
      unfold f_X6_obey g_X6_obey_0
      rcases hc with ⟨q1, -⟩ | ⟨q1, -⟩
      · rw [q1, if_neg (by decide), if_neg (by decide), if_neg (by decide), if_pos rfl]
      · rw [q1, if_neg (by decide), if_neg (by decide), if_neg (by decide), if_neg (by decide), if_pos rfl]
    unfold g_X6_holds_80 g_X6_holds_81
    rw [if_pos rfl, if_pos (vin_nI (by omega) (by omega)), nc i (by omega), e, Option.bind_some]
    unfold g_X6_holds_101
    rw [if_pos rfl, nI_s, nI_s]
  simp only [g_X6_holds_19]
  rw [if_neg (by rw [nI_leI (by omega) (by omega)]; omega), if_neg (by rw [nI_leI (by omega) (by omega)]; omega), if_pos trivial, if_pos (vin_nI (by omega) (by omega)), nc i (by omega)]
  rcases hc with ⟨q1, q2⟩ | ⟨q1, q2⟩
  · rw [if_pos q1, if_neg q2]
    unfold g_X6_holds_63
    rw [if_neg (by rw [q1]; decide), key]
  · rw [if_neg (by rw [q1]; decide)]
    unfold g_X6_holds_63
    rw [if_pos q1, if_pos q2, key]
theorem xs_end (hn : n ≤ 120) (x5 : Int32) : g_X6_holds_19 (fu + 1) (nI n) (nI st) c wi (nI n) h x4 x5 x6 bg nw a3 a4 a6 a8 = some ((if x6 = 0 then 0 else if x5 = 0 then 1 else 0), h, x4, x5, x6) := by
  have key : g_X6_holds_131 c wi (nI n) h x4 x5 x6 bg nw a3 a4 a6 a8 = some ((if x6 = 0 then 0 else if x5 = 0 then 1 else 0), h, x4, x5, x6) := by
    unfold g_X6_holds_131
    by_cases q1 : x6 = 0
    · rw [if_pos q1, if_pos q1]
    · rw [if_neg q1, if_neg q1]
      by_cases q2 : x5 = 0
      · rw [if_pos q2, if_pos q2]
      · rw [if_neg q2, if_neg q2]
  simp only [g_X6_holds_19]
  by_cases q : nI n ≤ nI st
  · rw [if_pos q, key]
  · rw [if_neg q, if_pos (by rw [nI_leI (by omega) (by omega)]; omega), key]
theorem xs_fail : ∀ {v2 v3 : Int32}, g_X6_holds_19 (fu + 1) v2 v3 c wi (nI n) h x4 1 x6 bg nw a3 a4 a6 a8 = some (0, h, x4, 1, x6) := by
  intro v2 v3
  have key : g_X6_holds_131 c wi (nI n) h x4 1 x6 bg nw a3 a4 a6 a8 = some (0, h, x4, 1, x6) := by
    unfold g_X6_holds_131
    by_cases q1 : x6 = 0
    · rw [if_pos q1]
    · rw [if_neg q1, if_neg (by decide)]
  simp only [g_X6_holds_19]
  rw [key, if_neg (show ¬ (1 : Int32) = 0 by decide)]
  by_cases q : nI n ≤ v3
  · rw [if_pos q]
  · rw [if_neg q]
    by_cases q' : nI n ≤ v2
    · rw [if_pos q']
    · rw [if_neg q']
end SPX
